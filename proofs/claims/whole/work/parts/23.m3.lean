def X10_hold (l1 : Int32) (σ : St) : Option (Int32 × St) := (X10_isSheet l1).bind (fun x1 => if x1 = 0 then (some ((-2), σ)) else (if ob l1 4 then none else (if (σ.1 15 (l1).toNatClampNeg) = 0 then (some ((-11), σ)) else ((X10_isOrder l1 σ).bind (fun x24 => if x24 = 0 then (some ((-2), σ)) else (if (σ.1 4 (2 : Int32).toNatClampNeg) = 999 then (some ((-3), σ)) else ((X10_goes l1 σ).bind (fun x50 => if ob l1 4 then none else (if ob (x50.1 17 (l1).toNatClampNeg) 6 then none else ((X10_screamsTill (x50.1 17 (l1).toNatClampNeg) (up x50 4 (0 : Int32).toNatClampNeg (x50.1 8 ((x50.1 17 (l1).toNatClampNeg)).toNatClampNeg))).bind (fun x79 => (X10_screamsTill (x50.1 17 (l1).toNatClampNeg) (up (up (up x50 4 (0 : Int32).toNatClampNeg (x50.1 8 ((x50.1 17 (l1).toNatClampNeg)).toNatClampNeg)) 0 8 (((up x50 4 (0 : Int32).toNatClampNeg (x50.1 8 ((x50.1 17 (l1).toNatClampNeg)).toNatClampNeg)).1 0 8) + x79)) 4 (2 : Int32).toNatClampNeg (((up (up x50 4 (0 : Int32).toNatClampNeg (x50.1 8 ((x50.1 17 (l1).toNatClampNeg)).toNatClampNeg)) 0 8 (((up x50 4 (0 : Int32).toNatClampNeg (x50.1 8 ((x50.1 17 (l1).toNatClampNeg)).toNatClampNeg)).1 0 8) + x79)).1 4 (2 : Int32).toNatClampNeg) + 1))).bind (fun x98 => some (x98, (up (up (up x50 4 (0 : Int32).toNatClampNeg (x50.1 8 ((x50.1 17 (l1).toNatClampNeg)).toNatClampNeg)) 0 8 (((up x50 4 (0 : Int32).toNatClampNeg (x50.1 8 ((x50.1 17 (l1).toNatClampNeg)).toNatClampNeg)).1 0 8) + x79)) 4 (2 : Int32).toNatClampNeg (((up (up x50 4 (0 : Int32).toNatClampNeg (x50.1 8 ((x50.1 17 (l1).toNatClampNeg)).toNatClampNeg)) 0 8 (((up x50 4 (0 : Int32).toNatClampNeg (x50.1 8 ((x50.1 17 (l1).toNatClampNeg)).toNatClampNeg)).1 0 8) + x79)).1 4 (2 : Int32).toNatClampNeg) + 1)))))))))))))))
set_option maxRecDepth 100000 in
set_option maxHeartbeats 4000000 in
theorem X10_hold_ok {l1 : Int32} {σ : St} {x : (Int32 × St)} (h : X10_hold l1 σ = some x) : Ct shM (65) yX10_hold cX10_hold 3 (some FieldType.int) (fun G => [.ref (G.2.1 0), .int l1]) σ (fun G => some (.int x.1)) x.2 := by
  refine Ct.of mw_X10_hold.1 (by decide +kernel) (fun G => Nat.le_of_ble_eq_true rfl) (fun G p l e d s m args below meth c A hd C => ?_)
  refine (?_ : Vw shM G p l e d s m args below meth c 3 A σ 0 [(0, .ref (G.2.1 0)), (1, .int l1)] [] (some (.int x.1)) x.2)
  unfold X10_hold at h
  refine V_iload_n C 1 dX10_hold_0 rfl rfl ?_
  obtain ⟨x1, h1, h⟩ := Option.bind_eq_some_iff.mp h
  refine V_callSi (As := [.int l1]) C (X10_isSheet_ok h1) mw_X10_isSheet.1 mw_X10_isSheet.2 q10_256 (by omega) rfl rfl rfl (Nat.le_of_ble_eq_true rfl) dX10_hold_1 ?_
  by_cases c1 : x1 = 0
  · rw [if_pos c1] at h
    refine V_if_neF C 10 dX10_hold_4 (by decide) c1 ?_
    refine V_bipush C (w := (-2)) dX10_hold_7 (by decide) ?_
    obtain rfl := Option.some.inj h
    exact V_iret C rfl rfl dX10_hold_9
  · rw [if_neg c1] at h
    refine V_if_neT C 10 dX10_hold_4 (by decide) c1 ?_
    refine V_aload_n C 0 dX10_hold_10 rfl rfl ?_
    refine fg10_60 (r := 15) C oM_0 rfl dX10_hold_11 ?_
    refine V_iload_n C 1 dX10_hold_14 rfl rfl ?_
    have g2 : ¬ (ob l1 4) := fun g9 => by rw [if_pos g9] at h; cases h
    rw [if_neg g2] at h
    refine V_zaldO C oM_15 g2 dX10_hold_15 ?_
    by_cases c3 : (σ.1 15 (l1).toNatClampNeg) = 0
    · rw [if_pos c3] at h
      refine V_if_neF C 22 dX10_hold_16 (by decide) c3 ?_
      refine V_bipush C (w := (-11)) dX10_hold_19 (by decide) ?_
      obtain rfl := Option.some.inj h
      exact V_iret C rfl rfl dX10_hold_21
    · rw [if_neg c3] at h
      refine V_if_neT C 22 dX10_hold_16 (by decide) c3 ?_
      refine V_aload_n C 0 dX10_hold_22 rfl rfl ?_
      refine V_iload_n C 1 dX10_hold_23 rfl rfl ?_
      obtain ⟨x24, h24, h⟩ := Option.bind_eq_some_iff.mp h
      refine V_callVi (As := [.int l1]) C (X10_isOrder_ok h24) mw_X10_isOrder.1 mw_X10_isOrder.2.1 mw_X10_isOrder.2.2 q10_261 oM_0.1 oM_0.2.1 (by decide) rfl rfl (by omega) rfl rfl rfl (Nat.le_of_ble_eq_true rfl) dX10_hold_24 ?_
      by_cases c4 : x24 = 0
      · rw [if_pos c4] at h
        refine V_if_neF C 33 dX10_hold_27 (by decide) c4 ?_
        refine V_bipush C (w := (-2)) dX10_hold_30 (by decide) ?_
        obtain rfl := Option.some.inj h
        exact V_iret C rfl rfl dX10_hold_32
      · rw [if_neg c4] at h
        refine V_if_neT C 33 dX10_hold_27 (by decide) c4 ?_
        refine V_aload_n C 0 dX10_hold_33 rfl rfl ?_
        refine fg10_23 (r := 4) C oM_0 rfl dX10_hold_34 ?_
        refine V_iconst C (w := 2) dX10_hold_37 (by decide) ?_
        refine V_ialdO C oM_4 (by decide) dX10_hold_38 ?_
        refine V_sipush C (w := 999) dX10_hold_39 (by decide) ?_
        by_cases c5 : (σ.1 4 (2 : Int32).toNatClampNeg) = 999
        · rw [if_pos c5] at h
          refine V_icmp_neF C 48 dX10_hold_42 (by decide) c5 ?_
          refine V_bipush C (w := (-3)) dX10_hold_45 (by decide) ?_
          obtain rfl := Option.some.inj h
          exact V_iret C rfl rfl dX10_hold_47
        · rw [if_neg c5] at h
          refine V_icmp_neT C 48 dX10_hold_42 (by decide) c5 ?_
          refine V_aload_n C 0 dX10_hold_48 rfl rfl ?_
          refine V_iload_n C 1 dX10_hold_49 rfl rfl ?_
          obtain ⟨x50, h50, h⟩ := Option.bind_eq_some_iff.mp h
          refine V_callVv (As := [.int l1]) C (X10_goes_ok h50) mw_X10_goes.1 mw_X10_goes.2.1 mw_X10_goes.2.2 q10_264 oM_0.1 oM_0.2.1 (by decide) rfl rfl (by omega) rfl rfl rfl (Nat.le_of_ble_eq_true rfl) dX10_hold_50 ?_
          refine V_aload_n C 0 dX10_hold_53 rfl rfl ?_
          refine fg10_66 (r := 17) C oM_0 rfl dX10_hold_54 ?_
          refine V_iload_n C 1 dX10_hold_57 rfl rfl ?_
          have g6 : ¬ (ob l1 4) := fun g9 => by rw [if_pos g9] at h; cases h
          rw [if_neg g6] at h
          refine V_ialdO C oM_17 g6 dX10_hold_58 ?_
          refine V_istore_n C (lv' := [(2, .int (x50.1 17 (l1).toNatClampNeg)), (0, .ref (G.2.1 0)), (1, .int l1)]) dX10_hold_59 rfl (by decide) rfl ?_
          refine V_aload_n C 1 dX10_hold_60 rfl rfl ?_
          refine fg10_23 (r := 4) C oM_0 rfl dX10_hold_61 ?_
          refine V_iconst C (w := 0) dX10_hold_64 (by decide) ?_
          refine V_aload_n C 1 dX10_hold_65 rfl rfl ?_
          refine fg10_35 (r := 8) C oM_0 rfl dX10_hold_66 ?_
          refine V_iload_n C 0 dX10_hold_69 rfl rfl ?_
          have g7 : ¬ (ob (x50.1 17 (l1).toNatClampNeg) 6) := fun g9 => by rw [if_pos g9] at h; cases h
          rw [if_neg g7] at h
          refine V_ialdO C oM_8 g7 dX10_hold_70 ?_
          refine V_iastO C oM_4 (by decide) dX10_hold_71 ?_
          refine V_aload_n C 1 dX10_hold_72 rfl rfl ?_
          refine V_dup C dX10_hold_73 rfl ?_
          refine fg10_274 C oM_0 dX10_hold_74 ?_
          refine V_aload_n C 1 dX10_hold_77 rfl rfl ?_
          refine V_iload_n C 0 dX10_hold_78 rfl rfl ?_
          obtain ⟨x79, h79, h⟩ := Option.bind_eq_some_iff.mp h
          refine V_callVi (As := [.int (x50.1 17 (l1).toNatClampNeg)]) C (X10_screamsTill_ok h79) mw_X10_screamsTill.1 mw_X10_screamsTill.2.1 mw_X10_screamsTill.2.2 q10_271 oM_0.1 oM_0.2.1 (by decide) rfl rfl (by omega) rfl rfl rfl (Nat.le_of_ble_eq_true rfl) dX10_hold_79 ?_
          refine V_iadd C dX10_hold_82 ?_
          refine fp10_274 C oM_0 dX10_hold_83 ?_
          refine V_aload_n C 1 dX10_hold_86 rfl rfl ?_
          refine fg10_23 (r := 4) C oM_0 rfl dX10_hold_87 ?_
          refine V_iconst C (w := 2) dX10_hold_90 (by decide) ?_
          refine V_dup2 C dX10_hold_91 rfl rfl ?_
          refine V_ialdO C oM_4 (by decide) dX10_hold_92 ?_
          refine V_iconst C (w := 1) dX10_hold_93 (by decide) ?_
          refine V_iadd C dX10_hold_94 ?_
          refine V_iastO C oM_4 (by decide) dX10_hold_95 ?_
          refine V_aload_n C 1 dX10_hold_96 rfl rfl ?_
          refine V_iload_n C 0 dX10_hold_97 rfl rfl ?_
          obtain ⟨x98, h98, h⟩ := Option.bind_eq_some_iff.mp h
          refine V_callVi (As := [.int (x50.1 17 (l1).toNatClampNeg)]) C (X10_screamsTill_ok h98) mw_X10_screamsTill.1 mw_X10_screamsTill.2.1 mw_X10_screamsTill.2.2 q10_271 oM_0.1 oM_0.2.1 (by decide) rfl rfl (by omega) rfl rfl rfl (Nat.le_of_ble_eq_true rfl) dX10_hold_98 ?_
          obtain rfl := Option.some.inj h
          exact V_iret C rfl rfl dX10_hold_101
def X10_seeksWarmest_b24 (rec : Int32 → Int32 → Int32 → St → Option St) (l2 : Int32) (l3 : Int32) (σ : St) : Option St := if ob l2 6 then none else (some (up (up (up σ 0 31 1) 0 32 l3) 0 33 ((up (up σ 0 31 1) 0 32 l3).1 8 (l2).toNatClampNeg)))
set_option maxRecDepth 100000 in
set_option maxHeartbeats 4000000 in
theorem X10_seeksWarmest_b24_ok {G : Gx} {p : Program} {l : Launch} {e : Env} {d : Nat} {s : State} {m : MethodId} {args : Array Value} {below : List Frame} {meth : Method} {c : Code} {A : Nat → Prop} {hr : Nat} {rec : Int32 → Int32 → Int32 → St → Option St} (C : OK shM G p s m args meth c RX10 cX10_seeksWarmest 5 none A) (hd : hr + 1 ≤ d) (hH : 64 ≤ hr) (hrec0 : ∀  {l1 : Int32} {l2 : Int32} {l3 : Int32} {σ : St} {x : St}, rec l1 l2 l3 σ = some x → Ct shM hr yX10_seeksWarmest cX10_seeksWarmest 5 none (fun G => [.ref (G.2.1 0), .int l1, .int l2, .int l3]) σ (fun G => none) x) {l2 : Int32} {l3 : Int32} {σ : St} {x : St} (h : X10_seeksWarmest_b24 rec l2 l3 σ = some x) : Vw shM G p l e d s m args below meth c 5 A σ 24 [(0, .ref (G.2.1 0)), (2, .int l2), (3, .int l3)] [] (none) x := by
  unfold X10_seeksWarmest_b24 at h
  refine V_aload_n C 0 dX10_seeksWarmest_24 rfl rfl ?_
  refine V_iconst C (w := 1) dX10_seeksWarmest_25 (by decide) ?_
  refine fp10_277 C oM_0 (Or.inr rfl) dX10_seeksWarmest_26 ?_
  refine V_aload_n C 0 dX10_seeksWarmest_29 rfl rfl ?_
  refine V_iload_n C 2 dX10_seeksWarmest_30 rfl rfl ?_
  refine fp10_283 C oM_0 dX10_seeksWarmest_31 ?_
  refine V_aload_n C 0 dX10_seeksWarmest_34 rfl rfl ?_
  refine V_aload_n C 0 dX10_seeksWarmest_35 rfl rfl ?_
  refine fg10_35 (r := 8) C oM_0 rfl dX10_seeksWarmest_36 ?_
  refine V_iload_n C 1 dX10_seeksWarmest_39 rfl rfl ?_
  have g1 : ¬ (ob l2 6) := fun g9 => by rw [if_pos g9] at h; cases h
  rw [if_neg g1] at h
  refine V_ialdO C oM_8 g1 dX10_seeksWarmest_40 ?_
  refine fp10_280 C oM_0 dX10_seeksWarmest_41 ?_
  obtain rfl := Option.some.inj h
  exact V_vret C rfl dX10_seeksWarmest_44
def X10_seeksWarmest_b48 (rec : Int32 → Int32 → Int32 → St → Option St) : Nat → Int32 → Int32 → Int32 → Int32 → St → Option St
  | 0, _, _, _, _, _ => none
  | F + 1, l1, l2, l3, l4, σ => if (σ.1 0 11) ≤ l4 then (some σ) else (if ((l1 >>> (l4 &&& 31)) &&& 1) = 1 then ((X10_comes l4 l2 σ).bind (fun x71 => (rec (l1 &&& ((1 <<< (l4 &&& 31)) ^^^ (-1))) (l2 + 1) (((10 * l3) + l4) + 1) x71).bind (fun x95 => X10_seeksWarmest_b48 rec F l1 l2 l3 (l4 + 1) x95))) else (X10_seeksWarmest_b48 rec F l1 l2 l3 (l4 + 1) σ))
set_option maxRecDepth 100000 in
set_option maxHeartbeats 4000000 in
theorem X10_seeksWarmest_b48_ok {G : Gx} {p : Program} {l : Launch} {e : Env} {d : Nat} {s : State} {m : MethodId} {args : Array Value} {below : List Frame} {meth : Method} {c : Code} {A : Nat → Prop} {hr : Nat} {rec : Int32 → Int32 → Int32 → St → Option St} (C : OK shM G p s m args meth c RX10 cX10_seeksWarmest 5 none A) (hd : hr + 1 ≤ d) (hH : 64 ≤ hr) (hrec0 : ∀  {l1 : Int32} {l2 : Int32} {l3 : Int32} {σ : St} {x : St}, rec l1 l2 l3 σ = some x → Ct shM hr yX10_seeksWarmest cX10_seeksWarmest 5 none (fun G => [.ref (G.2.1 0), .int l1, .int l2, .int l3]) σ (fun G => none) x) : ∀ (F : Nat) {l1 : Int32} {l2 : Int32} {l3 : Int32} {l4 : Int32} {σ : St} {x : St} (h : X10_seeksWarmest_b48 rec F l1 l2 l3 l4 σ = some x), Vw shM G p l e d s m args below meth c 5 A σ 48 [(0, .ref (G.2.1 0)), (1, .int l1), (2, .int l2), (3, .int l3), (4, .int l4)] [] (none) x := by
  intro F
  induction F with
  | zero =>
    intro l1 l2 l3 l4 σ x h
    rw [X10_seeksWarmest_b48] at h
    cases h
  | succ F ih =>
    intro l1 l2 l3 l4 σ x h
    rw [X10_seeksWarmest_b48] at h
    refine V_iload C 4 dX10_seeksWarmest_48 rfl ?_
    refine V_aload_n C 0 dX10_seeksWarmest_50 rfl rfl ?_
    refine fg10_79 C oM_0 dX10_seeksWarmest_51 ?_
    by_cases c2 : (σ.1 0 11) ≤ l4
    · rw [if_pos c2] at h
      refine V_icmp_geT C 104 dX10_seeksWarmest_54 (by decide) c2 ?_
      obtain rfl := Option.some.inj h
      exact V_vret C rfl dX10_seeksWarmest_104
    · rw [if_neg c2] at h
      refine V_icmp_geF C 104 dX10_seeksWarmest_54 (by decide) c2 ?_
      refine V_iload_n C 1 dX10_seeksWarmest_57 rfl rfl ?_
      refine V_iload C 4 dX10_seeksWarmest_58 rfl ?_
      refine V_ishr C dX10_seeksWarmest_60 ?_
      refine V_iconst C (w := 1) dX10_seeksWarmest_61 (by decide) ?_
      refine V_iand C dX10_seeksWarmest_62 ?_
      refine V_iconst C (w := 1) dX10_seeksWarmest_63 (by decide) ?_
      by_cases c3 : ((l1 >>> (l4 &&& 31)) &&& 1) = 1
      · rw [if_pos c3] at h
        refine V_icmp_neF C 98 dX10_seeksWarmest_64 (by decide) c3 ?_
        refine V_aload_n C 0 dX10_seeksWarmest_67 rfl rfl ?_
        refine V_iload C 4 dX10_seeksWarmest_68 rfl ?_
        refine V_iload_n C 2 dX10_seeksWarmest_70 rfl rfl ?_
        obtain ⟨x71, h71, h⟩ := Option.bind_eq_some_iff.mp h
        refine V_callVv (As := [.int l4, .int l2]) C (X10_comes_ok h71) mw_X10_comes.1 mw_X10_comes.2.1 mw_X10_comes.2.2 q10_253 oM_0.1 oM_0.2.1 (by decide) rfl rfl (by omega) rfl rfl rfl (Nat.le_of_ble_eq_true rfl) dX10_seeksWarmest_71 ?_
        refine V_aload_n C 0 dX10_seeksWarmest_74 rfl rfl ?_
        refine V_iload_n C 1 dX10_seeksWarmest_75 rfl rfl ?_
        refine V_iconst C (w := 1) dX10_seeksWarmest_76 (by decide) ?_
        refine V_iload C 4 dX10_seeksWarmest_77 rfl ?_
        refine V_ishl C dX10_seeksWarmest_79 ?_
        refine V_iconst C (w := (-1)) dX10_seeksWarmest_80 (by decide) ?_
        refine V_ixor C dX10_seeksWarmest_81 ?_
        refine V_iand C dX10_seeksWarmest_82 ?_
        refine V_iload_n C 2 dX10_seeksWarmest_83 rfl rfl ?_
        refine V_iconst C (w := 1) dX10_seeksWarmest_84 (by decide) ?_
        refine V_iadd C dX10_seeksWarmest_85 ?_
        refine V_bipush C (w := 10) dX10_seeksWarmest_86 (by decide) ?_
        refine V_iload_n C 3 dX10_seeksWarmest_88 rfl rfl ?_
        refine V_imul C dX10_seeksWarmest_89 ?_
        refine V_iload C 4 dX10_seeksWarmest_90 rfl ?_
        refine V_iadd C dX10_seeksWarmest_92 ?_
        refine V_iconst C (w := 1) dX10_seeksWarmest_93 (by decide) ?_
        refine V_iadd C dX10_seeksWarmest_94 ?_
        obtain ⟨x95, h95, h⟩ := Option.bind_eq_some_iff.mp h
        refine V_callVv (As := [.int (l1 &&& ((1 <<< (l4 &&& 31)) ^^^ (-1))), .int (l2 + 1), .int (((10 * l3) + l4) + 1)]) C (hrec0 h95) mw_X10_seeksWarmest.1 mw_X10_seeksWarmest.2.1 mw_X10_seeksWarmest.2.2 q10_286 oM_0.1 oM_0.2.1 (by decide) rfl rfl (by omega) rfl rfl rfl (Nat.le_of_ble_eq_true rfl) dX10_seeksWarmest_95 ?_
        refine V_iinc C (w := (l4 + 1)) (lv' := [(4, .int (l4 + 1)), (0, .ref (G.2.1 0)), (1, .int l1), (2, .int l2), (3, .int l3)]) 4 dX10_seeksWarmest_98 rfl (congrArg (l4 + ·) (show Int32.ofInt 1 = 1 by decide)) (by decide) rfl ?_
        refine V_goto C 48 dX10_seeksWarmest_101 (by decide) ?_
        refine V_sub (lv' := [(0, .ref (G.2.1 0)), (1, .int l1), (2, .int l2), (3, .int l3), (4, .int (l4 + 1))]) [1, 2, 3, 4, 0] rfl ?_
        exact ih h
      · rw [if_neg c3] at h
        refine V_icmp_neT C 98 dX10_seeksWarmest_64 (by decide) c3 ?_
        refine V_iinc C (w := (l4 + 1)) (lv' := [(4, .int (l4 + 1)), (0, .ref (G.2.1 0)), (1, .int l1), (2, .int l2), (3, .int l3)]) 4 dX10_seeksWarmest_98 rfl (congrArg (l4 + ·) (show Int32.ofInt 1 = 1 by decide)) (by decide) rfl ?_
        refine V_goto C 48 dX10_seeksWarmest_101 (by decide) ?_
        refine V_sub (lv' := [(0, .ref (G.2.1 0)), (1, .int l1), (2, .int l2), (3, .int l3), (4, .int (l4 + 1))]) [1, 2, 3, 4, 0] rfl ?_
        exact ih h
def X10_seeksWarmest (rec : Int32 → Int32 → Int32 → St → Option St) (l1 : Int32) (l2 : Int32) (l3 : Int32) (σ : St) : Option St := if l1 = 0 then (if (σ.1 0 31) = 0 then (X10_seeksWarmest_b24 rec l2 l3 σ) else (if ob l2 6 then none else (if (σ.1 8 (l2).toNatClampNeg) ≤ (σ.1 0 33) then (some σ) else (X10_seeksWarmest_b24 rec l2 l3 σ)))) else (X10_seeksWarmest_b48 rec FU l1 l2 l3 0 σ)
set_option maxRecDepth 100000 in
set_option maxHeartbeats 4000000 in
theorem X10_seeksWarmest_ok {hr : Nat} {rec : Int32 → Int32 → Int32 → St → Option St} (hH : 64 ≤ hr) (hrec0 : ∀  {l1 : Int32} {l2 : Int32} {l3 : Int32} {σ : St} {x : St}, rec l1 l2 l3 σ = some x → Ct shM hr yX10_seeksWarmest cX10_seeksWarmest 5 none (fun G => [.ref (G.2.1 0), .int l1, .int l2, .int l3]) σ (fun G => none) x) {l1 : Int32} {l2 : Int32} {l3 : Int32} {σ : St} {x : St} (h : X10_seeksWarmest rec l1 l2 l3 σ = some x) : Ct shM (hr + 1) yX10_seeksWarmest cX10_seeksWarmest 5 none (fun G => [.ref (G.2.1 0), .int l1, .int l2, .int l3]) σ (fun G => none) x := by
  refine Ct.of mw_X10_seeksWarmest.1 (by decide +kernel) (fun G => Nat.le_of_ble_eq_true rfl) (fun G p l e d s m args below meth c A hd C => ?_)
  refine (?_ : Vw shM G p l e d s m args below meth c 5 A σ 0 [(0, .ref (G.2.1 0)), (1, .int l1), (2, .int l2), (3, .int l3)] [] (none) x)
  unfold X10_seeksWarmest at h
  refine V_iload_n C 1 dX10_seeksWarmest_0 rfl rfl ?_
  by_cases c4 : l1 = 0
  · rw [if_pos c4] at h
    refine V_if_neF C 45 dX10_seeksWarmest_1 (by decide) c4 ?_
    refine V_aload_n C 0 dX10_seeksWarmest_4 rfl rfl ?_
    refine fg10_277 C oM_0 dX10_seeksWarmest_5 ?_
    by_cases c5 : (σ.1 0 31) = 0
    · rw [if_pos c5] at h
      refine V_if_eqT C 24 dX10_seeksWarmest_8 (by decide) c5 ?_
      refine V_sub (lv' := [(0, .ref (G.2.1 0)), (2, .int l2), (3, .int l3)]) [0, 2, 3] rfl ?_
      exact X10_seeksWarmest_b24_ok C hd hH hrec0 h
    · rw [if_neg c5] at h
      refine V_if_eqF C 24 dX10_seeksWarmest_8 (by decide) c5 ?_
      refine V_aload_n C 0 dX10_seeksWarmest_11 rfl rfl ?_
      refine fg10_35 (r := 8) C oM_0 rfl dX10_seeksWarmest_12 ?_
      refine V_iload_n C 2 dX10_seeksWarmest_15 rfl rfl ?_
      have g6 : ¬ (ob l2 6) := fun g9 => by rw [if_pos g9] at h; cases h
      rw [if_neg g6] at h
      refine V_ialdO C oM_8 g6 dX10_seeksWarmest_16 ?_
      refine V_aload_n C 0 dX10_seeksWarmest_17 rfl rfl ?_
      refine fg10_280 C oM_0 dX10_seeksWarmest_18 ?_
      by_cases c7 : (σ.1 8 (l2).toNatClampNeg) ≤ (σ.1 0 33)
      · rw [if_pos c7] at h
        refine V_icmp_leT C 44 dX10_seeksWarmest_21 (by decide) c7 ?_
        obtain rfl := Option.some.inj h
        exact V_vret C rfl dX10_seeksWarmest_44
      · rw [if_neg c7] at h
        refine V_icmp_leF C 44 dX10_seeksWarmest_21 (by decide) c7 ?_
        refine V_sub (lv' := [(0, .ref (G.2.1 0)), (2, .int l2), (3, .int l3)]) [0, 2, 3] rfl ?_
        exact X10_seeksWarmest_b24_ok C hd hH hrec0 h
  · rw [if_neg c4] at h
    refine V_if_neT C 45 dX10_seeksWarmest_1 (by decide) c4 ?_
    refine V_iconst C (w := 0) dX10_seeksWarmest_45 (by decide) ?_
    refine V_istore C (lv' := [(4, .int 0), (0, .ref (G.2.1 0)), (1, .int l1), (2, .int l2), (3, .int l3)]) dX10_seeksWarmest_46 (by decide) rfl ?_
    refine V_sub (lv' := [(0, .ref (G.2.1 0)), (1, .int l1), (2, .int l2), (3, .int l3), (4, .int 0)]) [1, 2, 3, 4, 0] rfl ?_
    exact X10_seeksWarmest_b48_ok C hd hH hrec0 FU h
def X10_seeksWarmest_K : Nat → Int32 → Int32 → Int32 → St → Option St
  | 0, _, _, _, _ => none
  | n + 1, l1, l2, l3, σ => X10_seeksWarmest (X10_seeksWarmest_K n) l1 l2 l3 σ
theorem X10_seeksWarmest_K_ok : ∀ n : Nat, (∀  {l1 : Int32} {l2 : Int32} {l3 : Int32} {σ : St} {x : St}, X10_seeksWarmest_K n l1 l2 l3 σ = some x → Ct shM (64 + 1 * n) yX10_seeksWarmest cX10_seeksWarmest 5 none (fun G => [.ref (G.2.1 0), .int l1, .int l2, .int l3]) σ (fun G => none) x) := by
  intro n
  induction n with
  | zero => refine fun h => by cases h
  | succ n ih =>
    refine fun h => Ct.mono (show 64 + 1 * n + 1 ≤ 64 + 1 * (n + 1) by omega) (X10_seeksWarmest_ok (hr := 64 + 1 * n) (rec := X10_seeksWarmest_K n) (by omega) ih (by exact h))
theorem X10_seeksWarmest_okK {l1 : Int32} {l2 : Int32} {l3 : Int32} {σ : St} {x : St} (h : X10_seeksWarmest (X10_seeksWarmest_K FR) l1 l2 l3 σ = some x) : Ct shM 73 yX10_seeksWarmest cX10_seeksWarmest 5 none (fun G => [.ref (G.2.1 0), .int l1, .int l2, .int l3]) σ (fun G => none) x := Ct.mono (show 64 + 1 * FR + 1 ≤ 73 by decide) (X10_seeksWarmest_ok (hr := 64 + 1 * FR) (by omega) (X10_seeksWarmest_K_ok FR) h)
def X10_warmestOf (l1 : Int32) (σ : St) : Option (Int32 × St) := (X10_begins σ).bind (fun x1 => (X10_seeksWarmest (X10_seeksWarmest_K FR) l1 0 0 (up x1 0 31 0)).bind (fun x13 => some ((x13.1 0 33), x13)))
set_option maxRecDepth 100000 in
set_option maxHeartbeats 4000000 in
theorem X10_warmestOf_ok {l1 : Int32} {σ : St} {x : (Int32 × St)} (h : X10_warmestOf l1 σ = some x) : Ct shM (74) yX10_warmestOf cX10_warmestOf 2 (some FieldType.int) (fun G => [.ref (G.2.1 0), .int l1]) σ (fun G => some (.int x.1)) x.2 := by
  refine Ct.of mw_X10_warmestOf.1 (by decide +kernel) (fun G => Nat.le_of_ble_eq_true rfl) (fun G p l e d s m args below meth c A hd C => ?_)
  refine (?_ : Vw shM G p l e d s m args below meth c 2 A σ 0 [(0, .ref (G.2.1 0)), (1, .int l1)] [] (some (.int x.1)) x.2)
  unfold X10_warmestOf at h
  refine V_aload_n C 0 dX10_warmestOf_0 rfl rfl ?_
  obtain ⟨x1, h1, h⟩ := Option.bind_eq_some_iff.mp h
  refine V_callVv (As := []) C (X10_begins_ok h1) mw_X10_begins.1 mw_X10_begins.2.1 mw_X10_begins.2.2 q10_113 oM_0.1 oM_0.2.1 (by decide) rfl rfl (by omega) rfl rfl rfl (Nat.le_of_ble_eq_true rfl) dX10_warmestOf_1 ?_
  refine V_aload_n C 0 dX10_warmestOf_4 rfl rfl ?_
  refine V_iconst C (w := 0) dX10_warmestOf_5 (by decide) ?_
  refine fp10_277 C oM_0 (Or.inl rfl) dX10_warmestOf_6 ?_
  refine V_aload_n C 0 dX10_warmestOf_9 rfl rfl ?_
  refine V_iload_n C 1 dX10_warmestOf_10 rfl rfl ?_
  refine V_iconst C (w := 0) dX10_warmestOf_11 (by decide) ?_
  refine V_iconst C (w := 0) dX10_warmestOf_12 (by decide) ?_
  obtain ⟨x13, h13, h⟩ := Option.bind_eq_some_iff.mp h
  refine V_callVv (As := [.int l1, .int 0, .int 0]) C (X10_seeksWarmest_okK h13) mw_X10_seeksWarmest.1 mw_X10_seeksWarmest.2.1 mw_X10_seeksWarmest.2.2 q10_286 oM_0.1 oM_0.2.1 (by decide) rfl rfl (by omega) rfl rfl rfl (Nat.le_of_ble_eq_true rfl) dX10_warmestOf_13 ?_
  refine V_aload_n C 0 dX10_warmestOf_16 rfl rfl ?_
  refine fg10_280 C oM_0 dX10_warmestOf_17 ?_
  obtain rfl := Option.some.inj h
  exact V_iret C rfl rfl dX10_warmestOf_20
def X10_everybody (σ : St) : Option Int32 := some ((1 <<< ((σ.1 0 11) &&& 31)) - 1)
set_option maxRecDepth 100000 in
set_option maxHeartbeats 4000000 in
theorem X10_everybody_ok {σ : St} {x : Int32} (h : X10_everybody σ = some x) : Ct shM (1) yX10_everybody cX10_everybody 1 (some FieldType.int) (fun G => [.ref (G.2.1 0)]) σ (fun G => some (.int x)) σ := by
  refine Ct.of mw_X10_everybody.1 (by decide +kernel) (fun G => Nat.le_of_ble_eq_true rfl) (fun G p l e d s m args below meth c A hd C => ?_)
  refine (?_ : Vw shM G p l e d s m args below meth c 1 A σ 0 [(0, .ref (G.2.1 0))] [] (some (.int x)) σ)
  unfold X10_everybody at h
  refine V_iconst C (w := 1) dX10_everybody_0 (by decide) ?_
  refine V_aload_n C 0 dX10_everybody_1 rfl rfl ?_
  refine fg10_79 C oM_0 dX10_everybody_2 ?_
  refine V_ishl C dX10_everybody_5 ?_
  refine V_iconst C (w := 1) dX10_everybody_6 (by decide) ?_
  refine V_isub C dX10_everybody_7 ?_
  obtain rfl := Option.some.inj h
  exact V_iret C rfl rfl dX10_everybody_8
def X10_warmest (l1 : Int32) (σ : St) : Option (Int32 × St) := (X10_in (Int32.toInt64 l1) 0 1).bind (fun x4 => if x4 = 0 then (some ((-2), σ)) else ((X10_everybody σ).bind (fun x15 => (X10_warmestOf x15 σ).bind (fun x18 => if l1 = 0 then (some ((x18.2.1 0 32), x18.2)) else (some (x18.1, x18.2))))))
set_option maxRecDepth 100000 in
set_option maxHeartbeats 4000000 in
theorem X10_warmest_ok {l1 : Int32} {σ : St} {x : (Int32 × St)} (h : X10_warmest l1 σ = some x) : Ct shM (75) yX10_warmest cX10_warmest 3 (some FieldType.int) (fun G => [.ref (G.2.1 0), .int l1]) σ (fun G => some (.int x.1)) x.2 := by
  refine Ct.of mw_X10_warmest.1 (by decide +kernel) (fun G => Nat.le_of_ble_eq_true rfl) (fun G p l e d s m args below meth c A hd C => ?_)
  refine (?_ : Vw shM G p l e d s m args below meth c 3 A σ 0 [(0, .ref (G.2.1 0)), (1, .int l1)] [] (some (.int x.1)) x.2)
  unfold X10_warmest at h
  refine V_iload_n C 1 dX10_warmest_0 rfl rfl ?_
  refine V_i2l C dX10_warmest_1 ?_
  refine V_lconst C (w := 0) dX10_warmest_2 (by decide) ?_
  refine V_lconst C (w := 1) dX10_warmest_3 (by decide) ?_
  obtain ⟨x4, h4, h⟩ := Option.bind_eq_some_iff.mp h
  refine V_callSi (As := [.long (Int32.toInt64 l1), .long 0, .long 1]) C (X10_in_ok h4) mw_X10_in.1 mw_X10_in.2 q10_82 (by omega) rfl rfl rfl (Nat.le_of_ble_eq_true rfl) dX10_warmest_4 ?_
  by_cases c1 : x4 = 0
  · rw [if_pos c1] at h
    refine V_if_neF C 13 dX10_warmest_7 (by decide) c1 ?_
    refine V_bipush C (w := (-2)) dX10_warmest_10 (by decide) ?_
    obtain rfl := Option.some.inj h
    exact V_iret C rfl rfl dX10_warmest_12
  · rw [if_neg c1] at h
    refine V_if_neT C 13 dX10_warmest_7 (by decide) c1 ?_
    refine V_aload_n C 0 dX10_warmest_13 rfl rfl ?_
    refine V_aload_n C 0 dX10_warmest_14 rfl rfl ?_
    obtain ⟨x15, h15, h⟩ := Option.bind_eq_some_iff.mp h
    refine V_callVi (As := []) C (X10_everybody_ok h15) mw_X10_everybody.1 mw_X10_everybody.2.1 mw_X10_everybody.2.2 q10_289 oM_0.1 oM_0.2.1 (by decide) rfl rfl (by omega) rfl rfl rfl (Nat.le_of_ble_eq_true rfl) dX10_warmest_15 ?_
    obtain ⟨x18, h18, h⟩ := Option.bind_eq_some_iff.mp h
    refine V_callVi (As := [.int x15]) C (X10_warmestOf_ok h18) mw_X10_warmestOf.1 mw_X10_warmestOf.2.1 mw_X10_warmestOf.2.2 q10_292 oM_0.1 oM_0.2.1 (by decide) rfl rfl (by omega) rfl rfl rfl (Nat.le_of_ble_eq_true rfl) dX10_warmest_18 ?_
    refine V_istore_n C (lv' := [(2, .int x18.1), (0, .ref (G.2.1 0)), (1, .int l1)]) dX10_warmest_21 rfl (by decide) rfl ?_
    refine V_iload_n C 2 dX10_warmest_22 rfl rfl ?_
    by_cases c2 : l1 = 0
    · rw [if_pos c2] at h
      refine V_if_neF C 33 dX10_warmest_23 (by decide) c2 ?_
      refine V_aload_n C 1 dX10_warmest_26 rfl rfl ?_
      refine fg10_283 C oM_0 dX10_warmest_27 ?_
      refine V_goto C 34 dX10_warmest_30 (by decide) ?_
      obtain rfl := Option.some.inj h
      exact V_iret C rfl rfl dX10_warmest_34
    · rw [if_neg c2] at h
      refine V_if_neT C 33 dX10_warmest_23 (by decide) c2 ?_
      refine V_iload_n C 0 dX10_warmest_33 rfl rfl ?_
      obtain rfl := Option.some.inj h
      exact V_iret C rfl rfl dX10_warmest_34
def X10_seeksSoonest_b33 (rec : Int32 → Int32 → Int32 → St → Option St) (l3 : Int32) (l4 : Int32) (σ : St) : Option St := some (up (up (up σ 0 31 1) 0 32 l3) 0 33 l4)
set_option maxRecDepth 100000 in
set_option maxHeartbeats 4000000 in
theorem X10_seeksSoonest_b33_ok {G : Gx} {p : Program} {l : Launch} {e : Env} {d : Nat} {s : State} {m : MethodId} {args : Array Value} {below : List Frame} {meth : Method} {c : Code} {A : Nat → Prop} {hr : Nat} {rec : Int32 → Int32 → Int32 → St → Option St} (C : OK shM G p s m args meth c RX10 cX10_seeksSoonest 5 none A) (hd : hr + 1 ≤ d) (hH : 64 ≤ hr) (hrec0 : ∀  {l1 : Int32} {l2 : Int32} {l3 : Int32} {σ : St} {x : St}, rec l1 l2 l3 σ = some x → Ct shM hr yX10_seeksSoonest cX10_seeksSoonest 5 none (fun G => [.ref (G.2.1 0), .int l1, .int l2, .int l3]) σ (fun G => none) x) {l3 : Int32} {l4 : Int32} {σ : St} {x : St} (h : X10_seeksSoonest_b33 rec l3 l4 σ = some x) : Vw shM G p l e d s m args below meth c 5 A σ 33 [(0, .ref (G.2.1 0)), (3, .int l3), (4, .int l4)] [] (none) x := by
  unfold X10_seeksSoonest_b33 at h
  refine V_aload_n C 0 dX10_seeksSoonest_33 rfl rfl ?_
  refine V_iconst C (w := 1) dX10_seeksSoonest_34 (by decide) ?_
  refine fp10_277 C oM_0 (Or.inr rfl) dX10_seeksSoonest_35 ?_
  refine V_aload_n C 0 dX10_seeksSoonest_38 rfl rfl ?_
  refine V_iload_n C 1 dX10_seeksSoonest_39 rfl rfl ?_
  refine fp10_283 C oM_0 dX10_seeksSoonest_40 ?_
  refine V_aload_n C 0 dX10_seeksSoonest_43 rfl rfl ?_
  refine V_iload C 2 dX10_seeksSoonest_44 rfl ?_
  refine fp10_280 C oM_0 dX10_seeksSoonest_46 ?_
  obtain rfl := Option.some.inj h
  exact V_vret C rfl dX10_seeksSoonest_49
def X10_seeksSoonest_b53 (rec : Int32 → Int32 → Int32 → St → Option St) : Nat → Int32 → Int32 → Int32 → Int32 → St → Option St
  | 0, _, _, _, _, _ => none
  | F + 1, l1, l2, l3, l4, σ => if (σ.1 0 11) ≤ l4 then (some σ) else (if ((l1 >>> (l4 &&& 31)) &&& 1) = 1 then ((X10_comes l4 l2 σ).bind (fun x76 => (rec (l1 &&& ((1 <<< (l4 &&& 31)) ^^^ (-1))) (l2 + 1) (((10 * l3) + l4) + 1) x76).bind (fun x100 => X10_seeksSoonest_b53 rec F l1 l2 l3 (l4 + 1) x100))) else (X10_seeksSoonest_b53 rec F l1 l2 l3 (l4 + 1) σ))
set_option maxRecDepth 100000 in
set_option maxHeartbeats 4000000 in
theorem X10_seeksSoonest_b53_ok {G : Gx} {p : Program} {l : Launch} {e : Env} {d : Nat} {s : State} {m : MethodId} {args : Array Value} {below : List Frame} {meth : Method} {c : Code} {A : Nat → Prop} {hr : Nat} {rec : Int32 → Int32 → Int32 → St → Option St} (C : OK shM G p s m args meth c RX10 cX10_seeksSoonest 5 none A) (hd : hr + 1 ≤ d) (hH : 64 ≤ hr) (hrec0 : ∀  {l1 : Int32} {l2 : Int32} {l3 : Int32} {σ : St} {x : St}, rec l1 l2 l3 σ = some x → Ct shM hr yX10_seeksSoonest cX10_seeksSoonest 5 none (fun G => [.ref (G.2.1 0), .int l1, .int l2, .int l3]) σ (fun G => none) x) : ∀ (F : Nat) {l1 : Int32} {l2 : Int32} {l3 : Int32} {l4 : Int32} {σ : St} {x : St} (h : X10_seeksSoonest_b53 rec F l1 l2 l3 l4 σ = some x), Vw shM G p l e d s m args below meth c 5 A σ 53 [(0, .ref (G.2.1 0)), (1, .int l1), (2, .int l2), (3, .int l3), (4, .int l4)] [] (none) x := by
  intro F
  induction F with
  | zero =>
    intro l1 l2 l3 l4 σ x h
    rw [X10_seeksSoonest_b53] at h
    cases h
  | succ F ih =>
    intro l1 l2 l3 l4 σ x h
    rw [X10_seeksSoonest_b53] at h
    refine V_iload C 4 dX10_seeksSoonest_53 rfl ?_
    refine V_aload_n C 0 dX10_seeksSoonest_55 rfl rfl ?_
    refine fg10_79 C oM_0 dX10_seeksSoonest_56 ?_
    by_cases c1 : (σ.1 0 11) ≤ l4
    · rw [if_pos c1] at h
      refine V_icmp_geT C 109 dX10_seeksSoonest_59 (by decide) c1 ?_
      obtain rfl := Option.some.inj h
      exact V_vret C rfl dX10_seeksSoonest_109
    · rw [if_neg c1] at h
      refine V_icmp_geF C 109 dX10_seeksSoonest_59 (by decide) c1 ?_
      refine V_iload_n C 1 dX10_seeksSoonest_62 rfl rfl ?_
      refine V_iload C 4 dX10_seeksSoonest_63 rfl ?_
      refine V_ishr C dX10_seeksSoonest_65 ?_
      refine V_iconst C (w := 1) dX10_seeksSoonest_66 (by decide) ?_
      refine V_iand C dX10_seeksSoonest_67 ?_
      refine V_iconst C (w := 1) dX10_seeksSoonest_68 (by decide) ?_
      by_cases c2 : ((l1 >>> (l4 &&& 31)) &&& 1) = 1
      · rw [if_pos c2] at h
        refine V_icmp_neF C 103 dX10_seeksSoonest_69 (by decide) c2 ?_
        refine V_aload_n C 0 dX10_seeksSoonest_72 rfl rfl ?_
        refine V_iload C 4 dX10_seeksSoonest_73 rfl ?_
        refine V_iload_n C 2 dX10_seeksSoonest_75 rfl rfl ?_
        obtain ⟨x76, h76, h⟩ := Option.bind_eq_some_iff.mp h
        refine V_callVv (As := [.int l4, .int l2]) C (X10_comes_ok h76) mw_X10_comes.1 mw_X10_comes.2.1 mw_X10_comes.2.2 q10_253 oM_0.1 oM_0.2.1 (by decide) rfl rfl (by omega) rfl rfl rfl (Nat.le_of_ble_eq_true rfl) dX10_seeksSoonest_76 ?_
        refine V_aload_n C 0 dX10_seeksSoonest_79 rfl rfl ?_
        refine V_iload_n C 1 dX10_seeksSoonest_80 rfl rfl ?_
        refine V_iconst C (w := 1) dX10_seeksSoonest_81 (by decide) ?_
        refine V_iload C 4 dX10_seeksSoonest_82 rfl ?_
        refine V_ishl C dX10_seeksSoonest_84 ?_
        refine V_iconst C (w := (-1)) dX10_seeksSoonest_85 (by decide) ?_
        refine V_ixor C dX10_seeksSoonest_86 ?_
        refine V_iand C dX10_seeksSoonest_87 ?_
        refine V_iload_n C 2 dX10_seeksSoonest_88 rfl rfl ?_
        refine V_iconst C (w := 1) dX10_seeksSoonest_89 (by decide) ?_
        refine V_iadd C dX10_seeksSoonest_90 ?_
        refine V_bipush C (w := 10) dX10_seeksSoonest_91 (by decide) ?_
        refine V_iload_n C 3 dX10_seeksSoonest_93 rfl rfl ?_
        refine V_imul C dX10_seeksSoonest_94 ?_
        refine V_iload C 4 dX10_seeksSoonest_95 rfl ?_
        refine V_iadd C dX10_seeksSoonest_97 ?_
        refine V_iconst C (w := 1) dX10_seeksSoonest_98 (by decide) ?_
        refine V_iadd C dX10_seeksSoonest_99 ?_
        obtain ⟨x100, h100, h⟩ := Option.bind_eq_some_iff.mp h
        refine V_callVv (As := [.int (l1 &&& ((1 <<< (l4 &&& 31)) ^^^ (-1))), .int (l2 + 1), .int (((10 * l3) + l4) + 1)]) C (hrec0 h100) mw_X10_seeksSoonest.1 mw_X10_seeksSoonest.2.1 mw_X10_seeksSoonest.2.2 q10_295 oM_0.1 oM_0.2.1 (by decide) rfl rfl (by omega) rfl rfl rfl (Nat.le_of_ble_eq_true rfl) dX10_seeksSoonest_100 ?_
        refine V_iinc C (w := (l4 + 1)) (lv' := [(4, .int (l4 + 1)), (0, .ref (G.2.1 0)), (1, .int l1), (2, .int l2), (3, .int l3)]) 4 dX10_seeksSoonest_103 rfl (congrArg (l4 + ·) (show Int32.ofInt 1 = 1 by decide)) (by decide) rfl ?_
        refine V_goto C 53 dX10_seeksSoonest_106 (by decide) ?_
        refine V_sub (lv' := [(0, .ref (G.2.1 0)), (1, .int l1), (2, .int l2), (3, .int l3), (4, .int (l4 + 1))]) [1, 2, 3, 4, 0] rfl ?_
        exact ih h
      · rw [if_neg c2] at h
        refine V_icmp_neT C 103 dX10_seeksSoonest_69 (by decide) c2 ?_
        refine V_iinc C (w := (l4 + 1)) (lv' := [(4, .int (l4 + 1)), (0, .ref (G.2.1 0)), (1, .int l1), (2, .int l2), (3, .int l3)]) 4 dX10_seeksSoonest_103 rfl (congrArg (l4 + ·) (show Int32.ofInt 1 = 1 by decide)) (by decide) rfl ?_
        refine V_goto C 53 dX10_seeksSoonest_106 (by decide) ?_
        refine V_sub (lv' := [(0, .ref (G.2.1 0)), (1, .int l1), (2, .int l2), (3, .int l3), (4, .int (l4 + 1))]) [1, 2, 3, 4, 0] rfl ?_
        exact ih h
def X10_seeksSoonest (rec : Int32 → Int32 → Int32 → St → Option St) (l1 : Int32) (l2 : Int32) (l3 : Int32) (σ : St) : Option St := if l1 = 0 then ((X10_boilsAt l2 σ).bind (fun x6 => if x6 = (-1) then (some σ) else (if (σ.1 0 31) = 0 then (X10_seeksSoonest_b33 rec l3 x6 σ) else (if (σ.1 0 33) ≤ x6 then (some σ) else (X10_seeksSoonest_b33 rec l3 x6 σ))))) else (X10_seeksSoonest_b53 rec FU l1 l2 l3 0 σ)
set_option maxRecDepth 100000 in
set_option maxHeartbeats 4000000 in
theorem X10_seeksSoonest_ok {hr : Nat} {rec : Int32 → Int32 → Int32 → St → Option St} (hH : 64 ≤ hr) (hrec0 : ∀  {l1 : Int32} {l2 : Int32} {l3 : Int32} {σ : St} {x : St}, rec l1 l2 l3 σ = some x → Ct shM hr yX10_seeksSoonest cX10_seeksSoonest 5 none (fun G => [.ref (G.2.1 0), .int l1, .int l2, .int l3]) σ (fun G => none) x) {l1 : Int32} {l2 : Int32} {l3 : Int32} {σ : St} {x : St} (h : X10_seeksSoonest rec l1 l2 l3 σ = some x) : Ct shM (hr + 1) yX10_seeksSoonest cX10_seeksSoonest 5 none (fun G => [.ref (G.2.1 0), .int l1, .int l2, .int l3]) σ (fun G => none) x := by
  refine Ct.of mw_X10_seeksSoonest.1 (by decide +kernel) (fun G => Nat.le_of_ble_eq_true rfl) (fun G p l e d s m args below meth c A hd C => ?_)
  refine (?_ : Vw shM G p l e d s m args below meth c 5 A σ 0 [(0, .ref (G.2.1 0)), (1, .int l1), (2, .int l2), (3, .int l3)] [] (none) x)
  unfold X10_seeksSoonest at h
  refine V_iload_n C 1 dX10_seeksSoonest_0 rfl rfl ?_
  by_cases c3 : l1 = 0
  · rw [if_pos c3] at h
    refine V_if_neF C 50 dX10_seeksSoonest_1 (by decide) c3 ?_
    refine V_aload_n C 0 dX10_seeksSoonest_4 rfl rfl ?_
    refine V_iload_n C 2 dX10_seeksSoonest_5 rfl rfl ?_
    obtain ⟨x6, h6, h⟩ := Option.bind_eq_some_iff.mp h
    refine V_callVi (As := [.int l2]) C (X10_boilsAt_ok h6) mw_X10_boilsAt.1 mw_X10_boilsAt.2.1 mw_X10_boilsAt.2.2 q10_268 oM_0.1 oM_0.2.1 (by decide) rfl rfl (by omega) rfl rfl rfl (Nat.le_of_ble_eq_true rfl) dX10_seeksSoonest_6 ?_
    refine V_istore C (lv' := [(4, .int x6), (0, .ref (G.2.1 0)), (1, .int l1), (2, .int l2), (3, .int l3)]) dX10_seeksSoonest_9 (by decide) rfl ?_
    refine V_iload C 0 dX10_seeksSoonest_11 rfl ?_
    refine V_iconst C (w := (-1)) dX10_seeksSoonest_13 (by decide) ?_
    by_cases c4 : x6 = (-1)
    · rw [if_pos c4] at h
      refine V_icmp_eqT C 49 dX10_seeksSoonest_14 (by decide) c4 ?_
      obtain rfl := Option.some.inj h
      exact V_vret C rfl dX10_seeksSoonest_49
    · rw [if_neg c4] at h
      refine V_icmp_eqF C 49 dX10_seeksSoonest_14 (by decide) c4 ?_
      refine V_aload_n C 1 dX10_seeksSoonest_17 rfl rfl ?_
      refine fg10_277 C oM_0 dX10_seeksSoonest_18 ?_
      by_cases c5 : (σ.1 0 31) = 0
      · rw [if_pos c5] at h
        refine V_if_eqT C 33 dX10_seeksSoonest_21 (by decide) c5 ?_
        refine V_sub (lv' := [(0, .ref (G.2.1 0)), (3, .int l3), (4, .int x6)]) [1, 4, 0] rfl ?_
        exact X10_seeksSoonest_b33_ok C hd hH hrec0 h
      · rw [if_neg c5] at h
        refine V_if_eqF C 33 dX10_seeksSoonest_21 (by decide) c5 ?_
        refine V_iload C 0 dX10_seeksSoonest_24 rfl ?_
        refine V_aload_n C 1 dX10_seeksSoonest_26 rfl rfl ?_
        refine fg10_280 C oM_0 dX10_seeksSoonest_27 ?_
        by_cases c6 : (σ.1 0 33) ≤ x6
        · rw [if_pos c6] at h
          refine V_icmp_geT C 49 dX10_seeksSoonest_30 (by decide) c6 ?_
          obtain rfl := Option.some.inj h
          exact V_vret C rfl dX10_seeksSoonest_49
        · rw [if_neg c6] at h
          refine V_icmp_geF C 49 dX10_seeksSoonest_30 (by decide) c6 ?_
          refine V_sub (lv' := [(0, .ref (G.2.1 0)), (3, .int l3), (4, .int x6)]) [1, 4, 0] rfl ?_
          exact X10_seeksSoonest_b33_ok C hd hH hrec0 h
  · rw [if_neg c3] at h
    refine V_if_neT C 50 dX10_seeksSoonest_1 (by decide) c3 ?_
    refine V_iconst C (w := 0) dX10_seeksSoonest_50 (by decide) ?_
    refine V_istore C (lv' := [(4, .int 0), (0, .ref (G.2.1 0)), (1, .int l1), (2, .int l2), (3, .int l3)]) dX10_seeksSoonest_51 (by decide) rfl ?_
    refine V_sub (lv' := [(0, .ref (G.2.1 0)), (1, .int l1), (2, .int l2), (3, .int l3), (4, .int 0)]) [1, 2, 3, 4, 0] rfl ?_
    exact X10_seeksSoonest_b53_ok C hd hH hrec0 FU h
def X10_seeksSoonest_K : Nat → Int32 → Int32 → Int32 → St → Option St
  | 0, _, _, _, _ => none
  | n + 1, l1, l2, l3, σ => X10_seeksSoonest (X10_seeksSoonest_K n) l1 l2 l3 σ
theorem X10_seeksSoonest_K_ok : ∀ n : Nat, (∀  {l1 : Int32} {l2 : Int32} {l3 : Int32} {σ : St} {x : St}, X10_seeksSoonest_K n l1 l2 l3 σ = some x → Ct shM (64 + 1 * n) yX10_seeksSoonest cX10_seeksSoonest 5 none (fun G => [.ref (G.2.1 0), .int l1, .int l2, .int l3]) σ (fun G => none) x) := by
  intro n
  induction n with
  | zero => refine fun h => by cases h
  | succ n ih =>
    refine fun h => Ct.mono (show 64 + 1 * n + 1 ≤ 64 + 1 * (n + 1) by omega) (X10_seeksSoonest_ok (hr := 64 + 1 * n) (rec := X10_seeksSoonest_K n) (by omega) ih (by exact h))
theorem X10_seeksSoonest_okK {l1 : Int32} {l2 : Int32} {l3 : Int32} {σ : St} {x : St} (h : X10_seeksSoonest (X10_seeksSoonest_K FR) l1 l2 l3 σ = some x) : Ct shM 73 yX10_seeksSoonest cX10_seeksSoonest 5 none (fun G => [.ref (G.2.1 0), .int l1, .int l2, .int l3]) σ (fun G => none) x := Ct.mono (show 64 + 1 * FR + 1 ≤ 73 by decide) (X10_seeksSoonest_ok (hr := 64 + 1 * FR) (by omega) (X10_seeksSoonest_K_ok FR) h)
def X10_seeksFew_b26 (rec : Int32 → Int32 → Int32 → Int32 → St → Option (Int32 × St)) : Nat → Int32 → Int32 → Int32 → Int32 → Int32 → St → Option (Int32 × St)
  | 0, _, _, _, _, _, _ => none
  | F + 1, l1, l2, l3, l4, l5, σ => if (σ.1 0 11) ≤ l5 then (some ((-1), σ)) else (if ((l1 >>> (l5 &&& 31)) &&& 1) = 1 then ((X10_comes l5 l2 σ).bind (fun x49 => (rec (l1 &&& ((1 <<< (l5 &&& 31)) ^^^ (-1))) (l2 + 1) l3 (((10 * l4) + l5) + 1) x49).bind (fun x75 => if x75.1 = (-1) then (X10_seeksFew_b26 rec F l1 l2 l3 l4 (l5 + 1) x75.2) else (some (x75.1, x75.2))))) else (X10_seeksFew_b26 rec F l1 l2 l3 l4 (l5 + 1) σ))
set_option maxRecDepth 100000 in
set_option maxHeartbeats 4000000 in
theorem X10_seeksFew_b26_ok {G : Gx} {p : Program} {l : Launch} {e : Env} {d : Nat} {s : State} {m : MethodId} {args : Array Value} {below : List Frame} {meth : Method} {c : Code} {A : Nat → Prop} {hr : Nat} {rec : Int32 → Int32 → Int32 → Int32 → St → Option (Int32 × St)} (C : OK shM G p s m args meth c RX10 cX10_seeksFew 7 (some FieldType.int) A) (hd : hr + 1 ≤ d) (hH : 64 ≤ hr) (hrec0 : ∀  {l1 : Int32} {l2 : Int32} {l3 : Int32} {l4 : Int32} {σ : St} {x : (Int32 × St)}, rec l1 l2 l3 l4 σ = some x → Ct shM hr yX10_seeksFew cX10_seeksFew 7 (some FieldType.int) (fun G => [.ref (G.2.1 0), .int l1, .int l2, .int l3, .int l4]) σ (fun G => some (.int x.1)) x.2) : ∀ (F : Nat) {l1 : Int32} {l2 : Int32} {l3 : Int32} {l4 : Int32} {l5 : Int32} {σ : St} {x : (Int32 × St)} (h : X10_seeksFew_b26 rec F l1 l2 l3 l4 l5 σ = some x), Vw shM G p l e d s m args below meth c 7 A σ 26 [(0, .ref (G.2.1 0)), (1, .int l1), (2, .int l2), (3, .int l3), (4, .int l4), (5, .int l5)] [] (some (.int x.1)) x.2 := by
  intro F
  induction F with
  | zero =>
    intro l1 l2 l3 l4 l5 σ x h
    rw [X10_seeksFew_b26] at h
    cases h
  | succ F ih =>
    intro l1 l2 l3 l4 l5 σ x h
    rw [X10_seeksFew_b26] at h
    refine V_iload C 5 dX10_seeksFew_26 rfl ?_
    refine V_aload_n C 0 dX10_seeksFew_28 rfl rfl ?_
    refine fg10_79 C oM_0 dX10_seeksFew_29 ?_
    by_cases c1 : (σ.1 0 11) ≤ l5
    · rw [if_pos c1] at h
      refine V_icmp_geT C 95 dX10_seeksFew_32 (by decide) c1 ?_
      refine V_iconst C (w := (-1)) dX10_seeksFew_95 (by decide) ?_
      obtain rfl := Option.some.inj h
      exact V_iret C rfl rfl dX10_seeksFew_96
    · rw [if_neg c1] at h
      refine V_icmp_geF C 95 dX10_seeksFew_32 (by decide) c1 ?_
      refine V_iload_n C 1 dX10_seeksFew_35 rfl rfl ?_
      refine V_iload C 5 dX10_seeksFew_36 rfl ?_
      refine V_ishr C dX10_seeksFew_38 ?_
      refine V_iconst C (w := 1) dX10_seeksFew_39 (by decide) ?_
      refine V_iand C dX10_seeksFew_40 ?_
      refine V_iconst C (w := 1) dX10_seeksFew_41 (by decide) ?_
      by_cases c2 : ((l1 >>> (l5 &&& 31)) &&& 1) = 1
      · rw [if_pos c2] at h
        refine V_icmp_neF C 89 dX10_seeksFew_42 (by decide) c2 ?_
        refine V_aload_n C 0 dX10_seeksFew_45 rfl rfl ?_
        refine V_iload C 5 dX10_seeksFew_46 rfl ?_
        refine V_iload_n C 2 dX10_seeksFew_48 rfl rfl ?_
        obtain ⟨x49, h49, h⟩ := Option.bind_eq_some_iff.mp h
        refine V_callVv (As := [.int l5, .int l2]) C (X10_comes_ok h49) mw_X10_comes.1 mw_X10_comes.2.1 mw_X10_comes.2.2 q10_253 oM_0.1 oM_0.2.1 (by decide) rfl rfl (by omega) rfl rfl rfl (Nat.le_of_ble_eq_true rfl) dX10_seeksFew_49 ?_
        refine V_aload_n C 0 dX10_seeksFew_52 rfl rfl ?_
        refine V_iload_n C 1 dX10_seeksFew_53 rfl rfl ?_
        refine V_iconst C (w := 1) dX10_seeksFew_54 (by decide) ?_
        refine V_iload C 5 dX10_seeksFew_55 rfl ?_
        refine V_ishl C dX10_seeksFew_57 ?_
        refine V_iconst C (w := (-1)) dX10_seeksFew_58 (by decide) ?_
        refine V_ixor C dX10_seeksFew_59 ?_
        refine V_iand C dX10_seeksFew_60 ?_
        refine V_iload_n C 2 dX10_seeksFew_61 rfl rfl ?_
        refine V_iconst C (w := 1) dX10_seeksFew_62 (by decide) ?_
        refine V_iadd C dX10_seeksFew_63 ?_
        refine V_iload_n C 3 dX10_seeksFew_64 rfl rfl ?_
        refine V_bipush C (w := 10) dX10_seeksFew_65 (by decide) ?_
        refine V_iload C 4 dX10_seeksFew_67 rfl ?_
        refine V_imul C dX10_seeksFew_69 ?_
        refine V_iload C 5 dX10_seeksFew_70 rfl ?_
        refine V_iadd C dX10_seeksFew_72 ?_
        refine V_iconst C (w := 1) dX10_seeksFew_73 (by decide) ?_
        refine V_iadd C dX10_seeksFew_74 ?_
        obtain ⟨x75, h75, h⟩ := Option.bind_eq_some_iff.mp h
        refine V_callVi (As := [.int (l1 &&& ((1 <<< (l5 &&& 31)) ^^^ (-1))), .int (l2 + 1), .int l3, .int (((10 * l4) + l5) + 1)]) C (hrec0 h75) mw_X10_seeksFew.1 mw_X10_seeksFew.2.1 mw_X10_seeksFew.2.2 q10_298 oM_0.1 oM_0.2.1 (by decide) rfl rfl (by omega) rfl rfl rfl (Nat.le_of_ble_eq_true rfl) dX10_seeksFew_75 ?_
        refine V_istore C (lv' := [(6, .int x75.1), (0, .ref (G.2.1 0)), (1, .int l1), (2, .int l2), (3, .int l3), (4, .int l4), (5, .int l5)]) dX10_seeksFew_78 (by decide) rfl ?_
        refine V_iload C 0 dX10_seeksFew_80 rfl ?_
        refine V_iconst C (w := (-1)) dX10_seeksFew_82 (by decide) ?_
        by_cases c3 : x75.1 = (-1)
        · rw [if_pos c3] at h
          refine V_icmp_eqT C 89 dX10_seeksFew_83 (by decide) c3 ?_
          refine V_iinc C (w := (l5 + 1)) (lv' := [(5, .int (l5 + 1)), (6, .int x75.1), (0, .ref (G.2.1 0)), (1, .int l1), (2, .int l2), (3, .int l3), (4, .int l4)]) 6 dX10_seeksFew_89 rfl (congrArg (l5 + ·) (show Int32.ofInt 1 = 1 by decide)) (by decide) rfl ?_
          refine V_goto C 26 dX10_seeksFew_92 (by decide) ?_
          refine V_sub (lv' := [(0, .ref (G.2.1 0)), (1, .int l1), (2, .int l2), (3, .int l3), (4, .int l4), (5, .int (l5 + 1))]) [2, 3, 4, 5, 6, 0] rfl ?_
          exact ih h
        · rw [if_neg c3] at h
          refine V_icmp_eqF C 89 dX10_seeksFew_83 (by decide) c3 ?_
          refine V_iload C 0 dX10_seeksFew_86 rfl ?_
          obtain rfl := Option.some.inj h
          exact V_iret C rfl rfl dX10_seeksFew_88
      · rw [if_neg c2] at h
        refine V_icmp_neT C 89 dX10_seeksFew_42 (by decide) c2 ?_
        refine V_iinc C (w := (l5 + 1)) (lv' := [(5, .int (l5 + 1)), (0, .ref (G.2.1 0)), (1, .int l1), (2, .int l2), (3, .int l3), (4, .int l4)]) 5 dX10_seeksFew_89 rfl (congrArg (l5 + ·) (show Int32.ofInt 1 = 1 by decide)) (by decide) rfl ?_
        refine V_goto C 26 dX10_seeksFew_92 (by decide) ?_
        refine V_sub (lv' := [(0, .ref (G.2.1 0)), (1, .int l1), (2, .int l2), (3, .int l3), (4, .int l4), (5, .int (l5 + 1))]) [1, 2, 3, 4, 5, 0] rfl ?_
        exact ih h
def X10_seeksFew (rec : Int32 → Int32 → Int32 → Int32 → St → Option (Int32 × St)) (l1 : Int32) (l2 : Int32) (l3 : Int32) (l4 : Int32) (σ : St) : Option (Int32 × St) := if l2 = l3 then (if ob (l2 - 1) 5 then none else (if (σ.1 9 ((l2 - 1)).toNatClampNeg) = 0 then (some ((-1), σ)) else (some (l4, σ)))) else (X10_seeksFew_b26 rec FU l1 l2 l3 l4 0 σ)
set_option maxRecDepth 100000 in
set_option maxHeartbeats 4000000 in
theorem X10_seeksFew_ok {hr : Nat} {rec : Int32 → Int32 → Int32 → Int32 → St → Option (Int32 × St)} (hH : 64 ≤ hr) (hrec0 : ∀  {l1 : Int32} {l2 : Int32} {l3 : Int32} {l4 : Int32} {σ : St} {x : (Int32 × St)}, rec l1 l2 l3 l4 σ = some x → Ct shM hr yX10_seeksFew cX10_seeksFew 7 (some FieldType.int) (fun G => [.ref (G.2.1 0), .int l1, .int l2, .int l3, .int l4]) σ (fun G => some (.int x.1)) x.2) {l1 : Int32} {l2 : Int32} {l3 : Int32} {l4 : Int32} {σ : St} {x : (Int32 × St)} (h : X10_seeksFew rec l1 l2 l3 l4 σ = some x) : Ct shM (hr + 1) yX10_seeksFew cX10_seeksFew 7 (some FieldType.int) (fun G => [.ref (G.2.1 0), .int l1, .int l2, .int l3, .int l4]) σ (fun G => some (.int x.1)) x.2 := by
  refine Ct.of mw_X10_seeksFew.1 (by decide +kernel) (fun G => Nat.le_of_ble_eq_true rfl) (fun G p l e d s m args below meth c A hd C => ?_)
  refine (?_ : Vw shM G p l e d s m args below meth c 7 A σ 0 [(0, .ref (G.2.1 0)), (1, .int l1), (2, .int l2), (3, .int l3), (4, .int l4)] [] (some (.int x.1)) x.2)
  unfold X10_seeksFew at h
  refine V_iload_n C 2 dX10_seeksFew_0 rfl rfl ?_
  refine V_iload_n C 3 dX10_seeksFew_1 rfl rfl ?_
  by_cases c4 : l2 = l3
  · rw [if_pos c4] at h
    refine V_icmp_neF C 23 dX10_seeksFew_2 (by decide) c4 ?_
    refine V_aload_n C 0 dX10_seeksFew_5 rfl rfl ?_
    refine fg10_38 (r := 9) C oM_0 rfl dX10_seeksFew_6 ?_
    refine V_iload_n C 2 dX10_seeksFew_9 rfl rfl ?_
    refine V_iconst C (w := 1) dX10_seeksFew_10 (by decide) ?_
    refine V_isub C dX10_seeksFew_11 ?_
    have g5 : ¬ (ob (l2 - 1) 5) := fun g9 => by rw [if_pos g9] at h; cases h
    rw [if_neg g5] at h
    refine V_zaldO C oM_9 g5 dX10_seeksFew_12 ?_
    by_cases c6 : (σ.1 9 ((l2 - 1)).toNatClampNeg) = 0
    · rw [if_pos c6] at h
      refine V_if_eqT C 21 dX10_seeksFew_13 (by decide) c6 ?_
      refine V_iconst C (w := (-1)) dX10_seeksFew_21 (by decide) ?_
      obtain rfl := Option.some.inj h
      exact V_iret C rfl rfl dX10_seeksFew_22
    · rw [if_neg c6] at h
      refine V_if_eqF C 21 dX10_seeksFew_13 (by decide) c6 ?_
      refine V_iload C 4 dX10_seeksFew_16 rfl ?_
      refine V_goto C 22 dX10_seeksFew_18 (by decide) ?_
      obtain rfl := Option.some.inj h
      exact V_iret C rfl rfl dX10_seeksFew_22
  · rw [if_neg c4] at h
    refine V_icmp_neT C 23 dX10_seeksFew_2 (by decide) c4 ?_
    refine V_iconst C (w := 0) dX10_seeksFew_23 (by decide) ?_
    refine V_istore C (lv' := [(5, .int 0), (0, .ref (G.2.1 0)), (1, .int l1), (2, .int l2), (3, .int l3), (4, .int l4)]) dX10_seeksFew_24 (by decide) rfl ?_
    refine V_sub (lv' := [(0, .ref (G.2.1 0)), (1, .int l1), (2, .int l2), (3, .int l3), (4, .int l4), (5, .int 0)]) [1, 2, 3, 4, 5, 0] rfl ?_
    exact X10_seeksFew_b26_ok C hd hH hrec0 FU h
def X10_seeksFew_K : Nat → Int32 → Int32 → Int32 → Int32 → St → Option (Int32 × St)
  | 0, _, _, _, _, _ => none
  | n + 1, l1, l2, l3, l4, σ => X10_seeksFew (X10_seeksFew_K n) l1 l2 l3 l4 σ
theorem X10_seeksFew_K_ok : ∀ n : Nat, (∀  {l1 : Int32} {l2 : Int32} {l3 : Int32} {l4 : Int32} {σ : St} {x : (Int32 × St)}, X10_seeksFew_K n l1 l2 l3 l4 σ = some x → Ct shM (64 + 1 * n) yX10_seeksFew cX10_seeksFew 7 (some FieldType.int) (fun G => [.ref (G.2.1 0), .int l1, .int l2, .int l3, .int l4]) σ (fun G => some (.int x.1)) x.2) := by
  intro n
  induction n with
  | zero => refine fun h => by cases h
  | succ n ih =>
    refine fun h => Ct.mono (show 64 + 1 * n + 1 ≤ 64 + 1 * (n + 1) by omega) (X10_seeksFew_ok (hr := 64 + 1 * n) (rec := X10_seeksFew_K n) (by omega) ih (by exact h))
theorem X10_seeksFew_okK {l1 : Int32} {l2 : Int32} {l3 : Int32} {l4 : Int32} {σ : St} {x : (Int32 × St)} (h : X10_seeksFew (X10_seeksFew_K FR) l1 l2 l3 l4 σ = some x) : Ct shM 73 yX10_seeksFew cX10_seeksFew 7 (some FieldType.int) (fun G => [.ref (G.2.1 0), .int l1, .int l2, .int l3, .int l4]) σ (fun G => some (.int x.1)) x.2 := Ct.mono (show 64 + 1 * FR + 1 ≤ 73 by decide) (X10_seeksFew_ok (hr := 64 + 1 * FR) (by omega) (X10_seeksFew_K_ok FR) h)
def X10_soonest_b68 : Nat → Int32 → Int32 → St → Option (Int32 × St)
  | 0, _, _, _ => none
  | F + 1, l1, l2, σ => if (σ.1 0 11) < l2 then (some ((-1), σ)) else ((X10_everybody σ).bind (fun x78 => (X10_seeksFew (X10_seeksFew_K FR) x78 0 l2 0 σ).bind (fun x84 => if x84.1 = (-1) then (X10_soonest_b68 F l1 (l2 + 1) x84.2) else (if l1 = 2 then (some (x84.1, x84.2)) else (some (l2, x84.2))))))
set_option maxRecDepth 100000 in
set_option maxHeartbeats 4000000 in
theorem X10_soonest_b68_ok {G : Gx} {p : Program} {l : Launch} {e : Env} {d : Nat} {s : State} {m : MethodId} {args : Array Value} {below : List Frame} {meth : Method} {c : Code} {A : Nat → Prop} (C : OK shM G p s m args meth c RX10 cX10_soonest 4 (some FieldType.int) A) (hd : 74 ≤ d) : ∀ (F : Nat) {l1 : Int32} {l2 : Int32} {σ : St} {x : (Int32 × St)} (h : X10_soonest_b68 F l1 l2 σ = some x), Vw shM G p l e d s m args below meth c 4 A σ 68 [(0, .ref (G.2.1 0)), (1, .int l1), (2, .int l2)] [] (some (.int x.1)) x.2 := by
  intro F
  induction F with
  | zero =>
    intro l1 l2 σ x h
    rw [X10_soonest_b68] at h
    cases h
  | succ F ih =>
    intro l1 l2 σ x h
    rw [X10_soonest_b68] at h
    refine V_iload_n C 2 dX10_soonest_68 rfl rfl ?_
    refine V_aload_n C 0 dX10_soonest_69 rfl rfl ?_
    refine fg10_79 C oM_0 dX10_soonest_70 ?_
    by_cases c1 : (σ.1 0 11) < l2
    · rw [if_pos c1] at h
      refine V_icmp_gtT C 110 dX10_soonest_73 (by decide) c1 ?_
      refine V_iconst C (w := (-1)) dX10_soonest_110 (by decide) ?_
      obtain rfl := Option.some.inj h
      exact V_iret C rfl rfl dX10_soonest_111
    · rw [if_neg c1] at h
      refine V_icmp_gtF C 110 dX10_soonest_73 (by decide) c1 ?_
      refine V_aload_n C 0 dX10_soonest_76 rfl rfl ?_
      refine V_aload_n C 0 dX10_soonest_77 rfl rfl ?_
      obtain ⟨x78, h78, h⟩ := Option.bind_eq_some_iff.mp h
      refine V_callVi (As := []) C (X10_everybody_ok h78) mw_X10_everybody.1 mw_X10_everybody.2.1 mw_X10_everybody.2.2 q10_289 oM_0.1 oM_0.2.1 (by decide) rfl rfl (by omega) rfl rfl rfl (Nat.le_of_ble_eq_true rfl) dX10_soonest_78 ?_
      refine V_iconst C (w := 0) dX10_soonest_81 (by decide) ?_
      refine V_iload_n C 2 dX10_soonest_82 rfl rfl ?_
      refine V_iconst C (w := 0) dX10_soonest_83 (by decide) ?_
      obtain ⟨x84, h84, h⟩ := Option.bind_eq_some_iff.mp h
      refine V_callVi (As := [.int x78, .int 0, .int l2, .int 0]) C (X10_seeksFew_okK h84) mw_X10_seeksFew.1 mw_X10_seeksFew.2.1 mw_X10_seeksFew.2.2 q10_298 oM_0.1 oM_0.2.1 (by decide) rfl rfl (by omega) rfl rfl rfl (Nat.le_of_ble_eq_true rfl) dX10_soonest_84 ?_
      refine V_istore_n C (lv' := [(3, .int x84.1), (0, .ref (G.2.1 0)), (1, .int l1), (2, .int l2)]) dX10_soonest_87 rfl (by decide) rfl ?_
      refine V_iload_n C 0 dX10_soonest_88 rfl rfl ?_
      refine V_iconst C (w := (-1)) dX10_soonest_89 (by decide) ?_
      by_cases c2 : x84.1 = (-1)
      · rw [if_pos c2] at h
        refine V_icmp_eqT C 104 dX10_soonest_90 (by decide) c2 ?_
        refine V_iinc C (w := (l2 + 1)) (lv' := [(2, .int (l2 + 1)), (3, .int x84.1), (0, .ref (G.2.1 0)), (1, .int l1)]) 3 dX10_soonest_104 rfl (congrArg (l2 + ·) (show Int32.ofInt 1 = 1 by decide)) (by decide) rfl ?_
        refine V_goto C 68 dX10_soonest_107 (by decide) ?_
        refine V_sub (lv' := [(0, .ref (G.2.1 0)), (1, .int l1), (2, .int (l2 + 1))]) [2, 3, 0] rfl ?_
        exact ih h
      · rw [if_neg c2] at h
        refine V_icmp_eqF C 104 dX10_soonest_90 (by decide) c2 ?_
        refine V_iload_n C 2 dX10_soonest_93 rfl rfl ?_
        refine V_iconst C (w := 2) dX10_soonest_94 (by decide) ?_
        by_cases c3 : l1 = 2
        · rw [if_pos c3] at h
          refine V_icmp_neF C 102 dX10_soonest_95 (by decide) c3 ?_
          refine V_iload_n C 0 dX10_soonest_98 rfl rfl ?_
          refine V_goto C 103 dX10_soonest_99 (by decide) ?_
          obtain rfl := Option.some.inj h
          exact V_iret C rfl rfl dX10_soonest_103
        · rw [if_neg c3] at h
          refine V_icmp_neT C 102 dX10_soonest_95 (by decide) c3 ?_
          refine V_iload_n C 3 dX10_soonest_102 rfl rfl ?_
          obtain rfl := Option.some.inj h
          exact V_iret C rfl rfl dX10_soonest_103
def X10_soonest (l1 : Int32) (σ : St) : Option (Int32 × St) := (X10_in (Int32.toInt64 l1) 0 3).bind (fun x6 => if x6 = 0 then (some ((-2), σ)) else ((X10_begins σ).bind (fun x16 => if 2 ≤ l1 then (X10_soonest_b68 FU l1 1 x16) else ((X10_everybody (up x16 0 31 0)).bind (fun x31 => (X10_seeksSoonest (X10_seeksSoonest_K FR) x31 0 0 (up x16 0 31 0)).bind (fun x36 => if (x36.1 0 31) = 0 then (some ((-1), x36)) else (if l1 = 0 then (some ((x36.1 0 32), x36)) else (some ((x36.1 0 33), x36)))))))))
set_option maxRecDepth 100000 in
set_option maxHeartbeats 4000000 in
theorem X10_soonest_ok {l1 : Int32} {σ : St} {x : (Int32 × St)} (h : X10_soonest l1 σ = some x) : Ct shM (74) yX10_soonest cX10_soonest 4 (some FieldType.int) (fun G => [.ref (G.2.1 0), .int l1]) σ (fun G => some (.int x.1)) x.2 := by
  refine Ct.of mw_X10_soonest.1 (by decide +kernel) (fun G => Nat.le_of_ble_eq_true rfl) (fun G p l e d s m args below meth c A hd C => ?_)
  refine (?_ : Vw shM G p l e d s m args below meth c 4 A σ 0 [(0, .ref (G.2.1 0)), (1, .int l1)] [] (some (.int x.1)) x.2)
  unfold X10_soonest at h
  refine V_iload_n C 1 dX10_soonest_0 rfl rfl ?_
  refine V_i2l C dX10_soonest_1 ?_
  refine V_lconst C (w := 0) dX10_soonest_2 (by decide) ?_
  refine V_ldc2 C (w := 3) dX10_soonest_3 qk10_302 ?_
  obtain ⟨x6, h6, h⟩ := Option.bind_eq_some_iff.mp h
  refine V_callSi (As := [.long (Int32.toInt64 l1), .long 0, .long 3]) C (X10_in_ok h6) mw_X10_in.1 mw_X10_in.2 q10_82 (by omega) rfl rfl rfl (Nat.le_of_ble_eq_true rfl) dX10_soonest_6 ?_
  by_cases c4 : x6 = 0
  · rw [if_pos c4] at h
    refine V_if_neF C 15 dX10_soonest_9 (by decide) c4 ?_
    refine V_bipush C (w := (-2)) dX10_soonest_12 (by decide) ?_
    obtain rfl := Option.some.inj h
    exact V_iret C rfl rfl dX10_soonest_14
  · rw [if_neg c4] at h
    refine V_if_neT C 15 dX10_soonest_9 (by decide) c4 ?_
    refine V_aload_n C 0 dX10_soonest_15 rfl rfl ?_
    obtain ⟨x16, h16, h⟩ := Option.bind_eq_some_iff.mp h
    refine V_callVv (As := []) C (X10_begins_ok h16) mw_X10_begins.1 mw_X10_begins.2.1 mw_X10_begins.2.2 q10_113 oM_0.1 oM_0.2.1 (by decide) rfl rfl (by omega) rfl rfl rfl (Nat.le_of_ble_eq_true rfl) dX10_soonest_16 ?_
    refine V_iload_n C 1 dX10_soonest_19 rfl rfl ?_
    refine V_iconst C (w := 2) dX10_soonest_20 (by decide) ?_
    by_cases c5 : 2 ≤ l1
    · rw [if_pos c5] at h
      refine V_icmp_geT C 66 dX10_soonest_21 (by decide) c5 ?_
      refine V_iconst C (w := 1) dX10_soonest_66 (by decide) ?_
      refine V_istore_n C (lv' := [(2, .int 1), (0, .ref (G.2.1 0)), (1, .int l1)]) dX10_soonest_67 rfl (by decide) rfl ?_
      refine V_sub (lv' := [(0, .ref (G.2.1 0)), (1, .int l1), (2, .int 1)]) [1, 2, 0] rfl ?_
      exact X10_soonest_b68_ok C hd FU h
    · rw [if_neg c5] at h
      refine V_icmp_geF C 66 dX10_soonest_21 (by decide) c5 ?_
      refine V_aload_n C 0 dX10_soonest_24 rfl rfl ?_
      refine V_iconst C (w := 0) dX10_soonest_25 (by decide) ?_
      refine fp10_277 C oM_0 (Or.inl rfl) dX10_soonest_26 ?_
      refine V_aload_n C 0 dX10_soonest_29 rfl rfl ?_
      refine V_aload_n C 0 dX10_soonest_30 rfl rfl ?_
      obtain ⟨x31, h31, h⟩ := Option.bind_eq_some_iff.mp h
      refine V_callVi (As := []) C (X10_everybody_ok h31) mw_X10_everybody.1 mw_X10_everybody.2.1 mw_X10_everybody.2.2 q10_289 oM_0.1 oM_0.2.1 (by decide) rfl rfl (by omega) rfl rfl rfl (Nat.le_of_ble_eq_true rfl) dX10_soonest_31 ?_
      refine V_iconst C (w := 0) dX10_soonest_34 (by decide) ?_
      refine V_iconst C (w := 0) dX10_soonest_35 (by decide) ?_
      obtain ⟨x36, h36, h⟩ := Option.bind_eq_some_iff.mp h
      refine V_callVv (As := [.int x31, .int 0, .int 0]) C (X10_seeksSoonest_okK h36) mw_X10_seeksSoonest.1 mw_X10_seeksSoonest.2.1 mw_X10_seeksSoonest.2.2 q10_295 oM_0.1 oM_0.2.1 (by decide) rfl rfl (by omega) rfl rfl rfl (Nat.le_of_ble_eq_true rfl) dX10_soonest_36 ?_
      refine V_aload_n C 0 dX10_soonest_39 rfl rfl ?_
      refine fg10_277 C oM_0 dX10_soonest_40 ?_
      by_cases c6 : (x36.1 0 31) = 0
      · rw [if_pos c6] at h
        refine V_if_neF C 50 dX10_soonest_43 (by decide) c6 ?_
        refine V_iconst C (w := (-1)) dX10_soonest_46 (by decide) ?_
        refine V_goto C 65 dX10_soonest_47 (by decide) ?_
        obtain rfl := Option.some.inj h
        exact V_iret C rfl rfl dX10_soonest_65
      · rw [if_neg c6] at h
        refine V_if_neT C 50 dX10_soonest_43 (by decide) c6 ?_
        refine V_iload_n C 1 dX10_soonest_50 rfl rfl ?_
        by_cases c7 : l1 = 0
        · rw [if_pos c7] at h
          refine V_if_neF C 61 dX10_soonest_51 (by decide) c7 ?_
          refine V_aload_n C 0 dX10_soonest_54 rfl rfl ?_
          refine fg10_283 C oM_0 dX10_soonest_55 ?_
          refine V_goto C 65 dX10_soonest_58 (by decide) ?_
          obtain rfl := Option.some.inj h
          exact V_iret C rfl rfl dX10_soonest_65
        · rw [if_neg c7] at h
          refine V_if_neT C 61 dX10_soonest_51 (by decide) c7 ?_
          refine V_aload_n C 0 dX10_soonest_61 rfl rfl ?_
          refine fg10_280 C oM_0 dX10_soonest_62 ?_
          obtain rfl := Option.some.inj h
          exact V_iret C rfl rfl dX10_soonest_65
def X10_ratherNot_b27 : Nat → Int32 → Int32 → Int32 → Int32 → St → Option (Int32 × St)
  | 0, _, _, _, _, _ => none
  | F + 1, l1, l2, l3, l4, σ => if (σ.1 0 11) ≤ l4 then (if l1 = 0 then (some (l2, σ)) else (some (l3, σ))) else ((X10_everybody σ).bind (fun x38 => (X10_warmestOf (x38 &&& ((1 <<< (l4 &&& 31)) ^^^ (-1))) σ).bind (fun x48 => if x48.1 ≤ l3 then (X10_ratherNot_b27 F l1 l2 l3 (l4 + 1) x48.2) else (X10_ratherNot_b27 F l1 l4 x48.1 (l4 + 1) x48.2))))
set_option maxRecDepth 100000 in
set_option maxHeartbeats 4000000 in
theorem X10_ratherNot_b27_ok {G : Gx} {p : Program} {l : Launch} {e : Env} {d : Nat} {s : State} {m : MethodId} {args : Array Value} {below : List Frame} {meth : Method} {c : Code} {A : Nat → Prop} (C : OK shM G p s m args meth c RX10 cX10_ratherNot 6 (some FieldType.int) A) (hd : 75 ≤ d) : ∀ (F : Nat) {l1 : Int32} {l2 : Int32} {l3 : Int32} {l4 : Int32} {σ : St} {x : (Int32 × St)} (h : X10_ratherNot_b27 F l1 l2 l3 l4 σ = some x), Vw shM G p l e d s m args below meth c 6 A σ 27 [(0, .ref (G.2.1 0)), (1, .int l1), (2, .int l2), (3, .int l3), (4, .int l4)] [] (some (.int x.1)) x.2 := by
  intro F
  induction F with
  | zero =>
    intro l1 l2 l3 l4 σ x h
    rw [X10_ratherNot_b27] at h
    cases h
  | succ F ih =>
    intro l1 l2 l3 l4 σ x h
    rw [X10_ratherNot_b27] at h
    refine V_iload C 4 dX10_ratherNot_27 rfl ?_
    refine V_aload_n C 0 dX10_ratherNot_29 rfl rfl ?_
    refine fg10_79 C oM_0 dX10_ratherNot_30 ?_
    by_cases c1 : (σ.1 0 11) ≤ l4
    · rw [if_pos c1] at h
      refine V_icmp_geT C 71 dX10_ratherNot_33 (by decide) c1 ?_
      refine V_iload_n C 1 dX10_ratherNot_71 rfl rfl ?_
      by_cases c2 : l1 = 0
      · rw [if_pos c2] at h
        refine V_if_neF C 79 dX10_ratherNot_72 (by decide) c2 ?_
        refine V_iload_n C 2 dX10_ratherNot_75 rfl rfl ?_
        refine V_goto C 80 dX10_ratherNot_76 (by decide) ?_
        obtain rfl := Option.some.inj h
        exact V_iret C rfl rfl dX10_ratherNot_80
      · rw [if_neg c2] at h
        refine V_if_neT C 79 dX10_ratherNot_72 (by decide) c2 ?_
        refine V_iload_n C 3 dX10_ratherNot_79 rfl rfl ?_
        obtain rfl := Option.some.inj h
        exact V_iret C rfl rfl dX10_ratherNot_80
    · rw [if_neg c1] at h
      refine V_icmp_geF C 71 dX10_ratherNot_33 (by decide) c1 ?_
      refine V_aload_n C 0 dX10_ratherNot_36 rfl rfl ?_
      refine V_aload_n C 0 dX10_ratherNot_37 rfl rfl ?_
      obtain ⟨x38, h38, h⟩ := Option.bind_eq_some_iff.mp h
      refine V_callVi (As := []) C (X10_everybody_ok h38) mw_X10_everybody.1 mw_X10_everybody.2.1 mw_X10_everybody.2.2 q10_289 oM_0.1 oM_0.2.1 (by decide) rfl rfl (by omega) rfl rfl rfl (Nat.le_of_ble_eq_true rfl) dX10_ratherNot_38 ?_
      refine V_iconst C (w := 1) dX10_ratherNot_41 (by decide) ?_
      refine V_iload C 4 dX10_ratherNot_42 rfl ?_
      refine V_ishl C dX10_ratherNot_44 ?_
      refine V_iconst C (w := (-1)) dX10_ratherNot_45 (by decide) ?_
      refine V_ixor C dX10_ratherNot_46 ?_
      refine V_iand C dX10_ratherNot_47 ?_
      obtain ⟨x48, h48, h⟩ := Option.bind_eq_some_iff.mp h
      refine V_callVi (As := [.int (x38 &&& ((1 <<< (l4 &&& 31)) ^^^ (-1)))]) C (X10_warmestOf_ok h48) mw_X10_warmestOf.1 mw_X10_warmestOf.2.1 mw_X10_warmestOf.2.2 q10_292 oM_0.1 oM_0.2.1 (by decide) rfl rfl (by omega) rfl rfl rfl (Nat.le_of_ble_eq_true rfl) dX10_ratherNot_48 ?_
      refine V_istore C (lv' := [(5, .int x48.1), (0, .ref (G.2.1 0)), (1, .int l1), (2, .int l2), (3, .int l3), (4, .int l4)]) dX10_ratherNot_51 (by decide) rfl ?_
      refine V_iload C 0 dX10_ratherNot_53 rfl ?_
      refine V_iload_n C 4 dX10_ratherNot_55 rfl rfl ?_
      by_cases c3 : x48.1 ≤ l3
      · rw [if_pos c3] at h
        refine V_icmp_leT C 65 dX10_ratherNot_56 (by decide) c3 ?_
        refine V_iinc C (w := (l4 + 1)) (lv' := [(4, .int (l4 + 1)), (5, .int x48.1), (0, .ref (G.2.1 0)), (1, .int l1), (2, .int l2), (3, .int l3)]) 5 dX10_ratherNot_65 rfl (congrArg (l4 + ·) (show Int32.ofInt 1 = 1 by decide)) (by decide) rfl ?_
        refine V_goto C 27 dX10_ratherNot_68 (by decide) ?_
        refine V_sub (lv' := [(0, .ref (G.2.1 0)), (1, .int l1), (2, .int l2), (3, .int l3), (4, .int (l4 + 1))]) [2, 3, 4, 5, 0] rfl ?_
        exact ih h
      · rw [if_neg c3] at h
        refine V_icmp_leF C 65 dX10_ratherNot_56 (by decide) c3 ?_
        refine V_iload C 5 dX10_ratherNot_59 rfl ?_
        refine V_istore_n C (lv' := [(2, .int l4), (5, .int x48.1), (0, .ref (G.2.1 0)), (1, .int l1), (3, .int l3), (4, .int l4)]) dX10_ratherNot_61 rfl (by decide) rfl ?_
        refine V_iload C 1 dX10_ratherNot_62 rfl ?_
        refine V_istore_n C (lv' := [(3, .int x48.1), (2, .int l4), (5, .int x48.1), (0, .ref (G.2.1 0)), (1, .int l1), (4, .int l4)]) dX10_ratherNot_64 rfl (by decide) rfl ?_
        refine V_iinc C (w := (l4 + 1)) (lv' := [(4, .int (l4 + 1)), (3, .int x48.1), (2, .int l4), (5, .int x48.1), (0, .ref (G.2.1 0)), (1, .int l1)]) 5 dX10_ratherNot_65 rfl (congrArg (l4 + ·) (show Int32.ofInt 1 = 1 by decide)) (by decide) rfl ?_
        refine V_goto C 27 dX10_ratherNot_68 (by decide) ?_
        refine V_sub (lv' := [(0, .ref (G.2.1 0)), (1, .int l1), (2, .int l4), (3, .int x48.1), (4, .int (l4 + 1))]) [4, 5, 2, 1, 0] rfl ?_
        exact ih h
def X10_ratherNot (l1 : Int32) (σ : St) : Option (Int32 × St) := (X10_in (Int32.toInt64 l1) 0 1).bind (fun x4 => if x4 = 0 then (some ((-2), σ)) else ((X10_everybody σ).bind (fun x17 => (X10_warmestOf x17 σ).bind (fun x20 => X10_ratherNot_b27 FU l1 (-1) x20.1 0 x20.2))))
set_option maxRecDepth 100000 in
set_option maxHeartbeats 4000000 in
theorem X10_ratherNot_ok {l1 : Int32} {σ : St} {x : (Int32 × St)} (h : X10_ratherNot l1 σ = some x) : Ct shM (75) yX10_ratherNot cX10_ratherNot 6 (some FieldType.int) (fun G => [.ref (G.2.1 0), .int l1]) σ (fun G => some (.int x.1)) x.2 := by
  refine Ct.of mw_X10_ratherNot.1 (by decide +kernel) (fun G => Nat.le_of_ble_eq_true rfl) (fun G p l e d s m args below meth c A hd C => ?_)
  refine (?_ : Vw shM G p l e d s m args below meth c 6 A σ 0 [(0, .ref (G.2.1 0)), (1, .int l1)] [] (some (.int x.1)) x.2)
  unfold X10_ratherNot at h
  refine V_iload_n C 1 dX10_ratherNot_0 rfl rfl ?_
  refine V_i2l C dX10_ratherNot_1 ?_
  refine V_lconst C (w := 0) dX10_ratherNot_2 (by decide) ?_
  refine V_lconst C (w := 1) dX10_ratherNot_3 (by decide) ?_
  obtain ⟨x4, h4, h⟩ := Option.bind_eq_some_iff.mp h
  refine V_callSi (As := [.long (Int32.toInt64 l1), .long 0, .long 1]) C (X10_in_ok h4) mw_X10_in.1 mw_X10_in.2 q10_82 (by omega) rfl rfl rfl (Nat.le_of_ble_eq_true rfl) dX10_ratherNot_4 ?_
  by_cases c4 : x4 = 0
  · rw [if_pos c4] at h
    refine V_if_neF C 13 dX10_ratherNot_7 (by decide) c4 ?_
    refine V_bipush C (w := (-2)) dX10_ratherNot_10 (by decide) ?_
    obtain rfl := Option.some.inj h
    exact V_iret C rfl rfl dX10_ratherNot_12
  · rw [if_neg c4] at h
    refine V_if_neT C 13 dX10_ratherNot_7 (by decide) c4 ?_
    refine V_iconst C (w := (-1)) dX10_ratherNot_13 (by decide) ?_
    refine V_istore_n C (lv' := [(2, .int (-1)), (0, .ref (G.2.1 0)), (1, .int l1)]) dX10_ratherNot_14 rfl (by decide) rfl ?_
    refine V_aload_n C 1 dX10_ratherNot_15 rfl rfl ?_
    refine V_aload_n C 1 dX10_ratherNot_16 rfl rfl ?_
    obtain ⟨x17, h17, h⟩ := Option.bind_eq_some_iff.mp h
    refine V_callVi (As := []) C (X10_everybody_ok h17) mw_X10_everybody.1 mw_X10_everybody.2.1 mw_X10_everybody.2.2 q10_289 oM_0.1 oM_0.2.1 (by decide) rfl rfl (by omega) rfl rfl rfl (Nat.le_of_ble_eq_true rfl) dX10_ratherNot_17 ?_
    obtain ⟨x20, h20, h⟩ := Option.bind_eq_some_iff.mp h
    refine V_callVi (As := [.int x17]) C (X10_warmestOf_ok h20) mw_X10_warmestOf.1 mw_X10_warmestOf.2.1 mw_X10_warmestOf.2.2 q10_292 oM_0.1 oM_0.2.1 (by decide) rfl rfl (by omega) rfl rfl rfl (Nat.le_of_ble_eq_true rfl) dX10_ratherNot_20 ?_
    refine V_istore_n C (lv' := [(3, .int x20.1), (2, .int (-1)), (0, .ref (G.2.1 0)), (1, .int l1)]) dX10_ratherNot_23 rfl (by decide) rfl ?_
    refine V_iconst C (w := 0) dX10_ratherNot_24 (by decide) ?_
    refine V_istore C (lv' := [(4, .int 0), (3, .int x20.1), (2, .int (-1)), (0, .ref (G.2.1 0)), (1, .int l1)]) dX10_ratherNot_25 (by decide) rfl ?_
    refine V_sub (lv' := [(0, .ref (G.2.1 0)), (1, .int l1), (2, .int (-1)), (3, .int x20.1), (4, .int 0)]) [3, 4, 2, 1, 0] rfl ?_
    exact X10_ratherNot_b27_ok C hd FU h
def X10_topic_b36 : Nat → Int32 → Int32 → Int32 → Int32 → Int32 → Int32 → St → Option (Int32 × St)
  | 0, _, _, _, _, _, _, _ => none
  | F + 1, l1, l2, l3, l4, l5, l6, σ => if 8 ≤ l6 then (if ob ((3 * l1) + 1) 15 then none else (if l2 = 0 then (some (l4, (up σ 6 (((3 * l1) + 1)).toNatClampNeg l3))) else (some (l5, (up σ 6 (((3 * l1) + 1)).toNatClampNeg l3))))) else (if ob ((3 * l1) + 1) 15 then none else ((X10_everybody (up σ 6 (((3 * l1) + 1)).toNatClampNeg l6)).bind (fun x57 => (X10_warmestOf x57 (up σ 6 (((3 * l1) + 1)).toNatClampNeg l6)).bind (fun x60 => if x60.1 ≤ l5 then (X10_topic_b36 F l1 l2 l3 l4 l5 (l6 + 1) x60.2) else (X10_topic_b36 F l1 l2 l3 l6 x60.1 (l6 + 1) x60.2)))))
set_option maxRecDepth 100000 in
set_option maxHeartbeats 4000000 in
theorem X10_topic_b36_ok {G : Gx} {p : Program} {l : Launch} {e : Env} {d : Nat} {s : State} {m : MethodId} {args : Array Value} {below : List Frame} {meth : Method} {c : Code} {A : Nat → Prop} (C : OK shM G p s m args meth c RX10 cX10_topic 8 (some FieldType.int) A) (hd : 75 ≤ d) : ∀ (F : Nat) {l1 : Int32} {l2 : Int32} {l3 : Int32} {l4 : Int32} {l5 : Int32} {l6 : Int32} {σ : St} {x : (Int32 × St)} (h : X10_topic_b36 F l1 l2 l3 l4 l5 l6 σ = some x), Vw shM G p l e d s m args below meth c 8 A σ 36 [(0, .ref (G.2.1 0)), (1, .int l1), (2, .int l2), (3, .int l3), (4, .int l4), (5, .int l5), (6, .int l6)] [] (some (.int x.1)) x.2 := by
  intro F
  induction F with
  | zero =>
    intro l1 l2 l3 l4 l5 l6 σ x h
    rw [X10_topic_b36] at h
    cases h
  | succ F ih =>
    intro l1 l2 l3 l4 l5 l6 σ x h
    rw [X10_topic_b36] at h
    refine V_iload C 6 dX10_topic_36 rfl ?_
    refine V_bipush C (w := 8) dX10_topic_38 (by decide) ?_
    by_cases c1 : 8 ≤ l6
    · rw [if_pos c1] at h
      refine V_icmp_geT C 86 dX10_topic_40 (by decide) c1 ?_
      refine V_aload_n C 0 dX10_topic_86 rfl rfl ?_
      refine fg10_29 (r := 6) C oM_0 rfl dX10_topic_87 ?_
      refine V_iconst C (w := 3) dX10_topic_90 (by decide) ?_
      refine V_iload_n C 1 dX10_topic_91 rfl rfl ?_
      refine V_imul C dX10_topic_92 ?_
      refine V_iconst C (w := 1) dX10_topic_93 (by decide) ?_
      refine V_iadd C dX10_topic_94 ?_
      refine V_iload_n C 3 dX10_topic_95 rfl rfl ?_
      have g2 : ¬ (ob ((3 * l1) + 1) 15) := fun g9 => by rw [if_pos g9] at h; cases h
      rw [if_neg g2] at h
      refine V_iastO C oM_6 g2 dX10_topic_96 ?_
      refine V_iload_n C 2 dX10_topic_97 rfl rfl ?_
      by_cases c3 : l2 = 0
      · rw [if_pos c3] at h
        refine V_if_neF C 106 dX10_topic_98 (by decide) c3 ?_
        refine V_iload C 4 dX10_topic_101 rfl ?_
        refine V_goto C 108 dX10_topic_103 (by decide) ?_
        obtain rfl := Option.some.inj h
        exact V_iret C rfl rfl dX10_topic_108
      · rw [if_neg c3] at h
        refine V_if_neT C 106 dX10_topic_98 (by decide) c3 ?_
        refine V_iload C 5 dX10_topic_106 rfl ?_
        obtain rfl := Option.some.inj h
        exact V_iret C rfl rfl dX10_topic_108
    · rw [if_neg c1] at h
      refine V_icmp_geF C 86 dX10_topic_40 (by decide) c1 ?_
      refine V_aload_n C 0 dX10_topic_43 rfl rfl ?_
      refine fg10_29 (r := 6) C oM_0 rfl dX10_topic_44 ?_
      refine V_iconst C (w := 3) dX10_topic_47 (by decide) ?_
      refine V_iload_n C 1 dX10_topic_48 rfl rfl ?_
      refine V_imul C dX10_topic_49 ?_
      refine V_iconst C (w := 1) dX10_topic_50 (by decide) ?_
      refine V_iadd C dX10_topic_51 ?_
      refine V_iload C 6 dX10_topic_52 rfl ?_
      have g4 : ¬ (ob ((3 * l1) + 1) 15) := fun g9 => by rw [if_pos g9] at h; cases h
      rw [if_neg g4] at h
      refine V_iastO C oM_6 g4 dX10_topic_54 ?_
      refine V_aload_n C 0 dX10_topic_55 rfl rfl ?_
      refine V_aload_n C 0 dX10_topic_56 rfl rfl ?_
      obtain ⟨x57, h57, h⟩ := Option.bind_eq_some_iff.mp h
      refine V_callVi (As := []) C (X10_everybody_ok h57) mw_X10_everybody.1 mw_X10_everybody.2.1 mw_X10_everybody.2.2 q10_289 oM_0.1 oM_0.2.1 (by decide) rfl rfl (by omega) rfl rfl rfl (Nat.le_of_ble_eq_true rfl) dX10_topic_57 ?_
      obtain ⟨x60, h60, h⟩ := Option.bind_eq_some_iff.mp h
      refine V_callVi (As := [.int x57]) C (X10_warmestOf_ok h60) mw_X10_warmestOf.1 mw_X10_warmestOf.2.1 mw_X10_warmestOf.2.2 q10_292 oM_0.1 oM_0.2.1 (by decide) rfl rfl (by omega) rfl rfl rfl (Nat.le_of_ble_eq_true rfl) dX10_topic_60 ?_
      refine V_istore C (lv' := [(7, .int x60.1), (0, .ref (G.2.1 0)), (1, .int l1), (2, .int l2), (3, .int l3), (4, .int l4), (5, .int l5), (6, .int l6)]) dX10_topic_63 (by decide) rfl ?_
      refine V_iload C 0 dX10_topic_65 rfl ?_
      refine V_iload C 6 dX10_topic_67 rfl ?_
      by_cases c5 : x60.1 ≤ l5
      · rw [if_pos c5] at h
        refine V_icmp_leT C 80 dX10_topic_69 (by decide) c5 ?_
        refine V_iinc C (w := (l6 + 1)) (lv' := [(6, .int (l6 + 1)), (7, .int x60.1), (0, .ref (G.2.1 0)), (1, .int l1), (2, .int l2), (3, .int l3), (4, .int l4), (5, .int l5)]) 7 dX10_topic_80 rfl (congrArg (l6 + ·) (show Int32.ofInt 1 = 1 by decide)) (by decide) rfl ?_
        refine V_goto C 36 dX10_topic_83 (by decide) ?_
        refine V_sub (lv' := [(0, .ref (G.2.1 0)), (1, .int l1), (2, .int l2), (3, .int l3), (4, .int l4), (5, .int l5), (6, .int (l6 + 1))]) [2, 3, 4, 5, 6, 7, 0] rfl ?_
        exact ih h
      · rw [if_neg c5] at h
        refine V_icmp_leF C 80 dX10_topic_69 (by decide) c5 ?_
        refine V_iload C 7 dX10_topic_72 rfl ?_
        refine V_istore C (lv' := [(4, .int l6), (7, .int x60.1), (0, .ref (G.2.1 0)), (1, .int l1), (2, .int l2), (3, .int l3), (5, .int l5), (6, .int l6)]) dX10_topic_74 (by decide) rfl ?_
        refine V_iload C 1 dX10_topic_76 rfl ?_
        refine V_istore C (lv' := [(5, .int x60.1), (4, .int l6), (7, .int x60.1), (0, .ref (G.2.1 0)), (1, .int l1), (2, .int l2), (3, .int l3), (6, .int l6)]) dX10_topic_78 (by decide) rfl ?_
        refine V_iinc C (w := (l6 + 1)) (lv' := [(6, .int (l6 + 1)), (5, .int x60.1), (4, .int l6), (7, .int x60.1), (0, .ref (G.2.1 0)), (1, .int l1), (2, .int l2), (3, .int l3)]) 7 dX10_topic_80 rfl (congrArg (l6 + ·) (show Int32.ofInt 1 = 1 by decide)) (by decide) rfl ?_
        refine V_goto C 36 dX10_topic_83 (by decide) ?_
        refine V_sub (lv' := [(0, .ref (G.2.1 0)), (1, .int l1), (2, .int l2), (3, .int l3), (4, .int l6), (5, .int x60.1), (6, .int (l6 + 1))]) [4, 5, 6, 7, 2, 1, 0] rfl ?_
        exact ih h
def X10_topic (l1 : Int32) (l2 : Int32) (σ : St) : Option (Int32 × St) := (X10_isOne l1 σ).bind (fun x2 => if x2 = 0 then (some ((-2), σ)) else ((X10_in (Int32.toInt64 l2) 0 1).bind (fun x12 => if x12 = 0 then (some ((-2), σ)) else ((X10_topicOf l1 σ).bind (fun x23 => X10_topic_b36 FU l1 l2 x23 (-1) (-1) 0 σ)))))
set_option maxRecDepth 100000 in
set_option maxHeartbeats 4000000 in
theorem X10_topic_ok {l1 : Int32} {l2 : Int32} {σ : St} {x : (Int32 × St)} (h : X10_topic l1 l2 σ = some x) : Ct shM (75) yX10_topic cX10_topic 8 (some FieldType.int) (fun G => [.ref (G.2.1 0), .int l1, .int l2]) σ (fun G => some (.int x.1)) x.2 := by
  refine Ct.of mw_X10_topic.1 (by decide +kernel) (fun G => Nat.le_of_ble_eq_true rfl) (fun G p l e d s m args below meth c A hd C => ?_)
  refine (?_ : Vw shM G p l e d s m args below meth c 8 A σ 0 [(0, .ref (G.2.1 0)), (1, .int l1), (2, .int l2)] [] (some (.int x.1)) x.2)
  unfold X10_topic at h
  refine V_aload_n C 0 dX10_topic_0 rfl rfl ?_
  refine V_iload_n C 1 dX10_topic_1 rfl rfl ?_
  obtain ⟨x2, h2, h⟩ := Option.bind_eq_some_iff.mp h
  refine V_callVi (As := [.int l1]) C (X10_isOne_ok h2) mw_X10_isOne.1 mw_X10_isOne.2.1 mw_X10_isOne.2.2 q10_88 oM_0.1 oM_0.2.1 (by decide) rfl rfl (by omega) rfl rfl rfl (Nat.le_of_ble_eq_true rfl) dX10_topic_2 ?_
  by_cases c6 : x2 = 0
  · rw [if_pos c6] at h
    refine V_if_eqT C 18 dX10_topic_5 (by decide) c6 ?_
    refine V_bipush C (w := (-2)) dX10_topic_18 (by decide) ?_
    obtain rfl := Option.some.inj h
    exact V_iret C rfl rfl dX10_topic_20
  · rw [if_neg c6] at h
    refine V_if_eqF C 18 dX10_topic_5 (by decide) c6 ?_
    refine V_iload_n C 2 dX10_topic_8 rfl rfl ?_
    refine V_i2l C dX10_topic_9 ?_
    refine V_lconst C (w := 0) dX10_topic_10 (by decide) ?_
    refine V_lconst C (w := 1) dX10_topic_11 (by decide) ?_
    obtain ⟨x12, h12, h⟩ := Option.bind_eq_some_iff.mp h
    refine V_callSi (As := [.long (Int32.toInt64 l2), .long 0, .long 1]) C (X10_in_ok h12) mw_X10_in.1 mw_X10_in.2 q10_82 (by omega) rfl rfl rfl (Nat.le_of_ble_eq_true rfl) dX10_topic_12 ?_
    by_cases c7 : x12 = 0
    · rw [if_pos c7] at h
      refine V_if_neF C 21 dX10_topic_15 (by decide) c7 ?_
      refine V_bipush C (w := (-2)) dX10_topic_18 (by decide) ?_
      obtain rfl := Option.some.inj h
      exact V_iret C rfl rfl dX10_topic_20
    · rw [if_neg c7] at h
      refine V_if_neT C 21 dX10_topic_15 (by decide) c7 ?_
      refine V_aload_n C 0 dX10_topic_21 rfl rfl ?_
      refine V_iload_n C 1 dX10_topic_22 rfl rfl ?_
      obtain ⟨x23, h23, h⟩ := Option.bind_eq_some_iff.mp h
      refine V_callVi (As := [.int l1]) C (X10_topicOf_ok h23) mw_X10_topicOf.1 mw_X10_topicOf.2.1 mw_X10_topicOf.2.2 q10_246 oM_0.1 oM_0.2.1 (by decide) rfl rfl (by omega) rfl rfl rfl (Nat.le_of_ble_eq_true rfl) dX10_topic_23 ?_
      refine V_istore_n C (lv' := [(3, .int x23), (0, .ref (G.2.1 0)), (1, .int l1), (2, .int l2)]) dX10_topic_26 rfl (by decide) rfl ?_
      refine V_iconst C (w := (-1)) dX10_topic_27 (by decide) ?_
      refine V_istore C (lv' := [(4, .int (-1)), (3, .int x23), (0, .ref (G.2.1 0)), (1, .int l1), (2, .int l2)]) dX10_topic_28 (by decide) rfl ?_
      refine V_iconst C (w := (-1)) dX10_topic_30 (by decide) ?_
      refine V_istore C (lv' := [(5, .int (-1)), (4, .int (-1)), (3, .int x23), (0, .ref (G.2.1 0)), (1, .int l1), (2, .int l2)]) dX10_topic_31 (by decide) rfl ?_
      refine V_iconst C (w := 0) dX10_topic_33 (by decide) ?_
      refine V_istore C (lv' := [(6, .int 0), (5, .int (-1)), (4, .int (-1)), (3, .int x23), (0, .ref (G.2.1 0)), (1, .int l1), (2, .int l2)]) dX10_topic_34 (by decide) rfl ?_
      refine V_sub (lv' := [(0, .ref (G.2.1 0)), (1, .int l1), (2, .int l2), (3, .int x23), (4, .int (-1)), (5, .int (-1)), (6, .int 0)]) [4, 5, 6, 3, 2, 1, 0] rfl ?_
      exact X10_topic_b36_ok C hd FU h
def X10_plays_b102 (rec : Int32 → Int32 → St → Option (Int32 × St)) (K16 : Int32 → Int32 → Int32 → Int32 → St → Option (Int32 × St)) (l1 : Int32) (l2 : Int32) (l3 : Int32) (l4 : Int32) (s0 : Int32) (σ : St) : Option (Int32 × St) := K16 l1 l2 l3 (l4 + 1) (up σ 0 34 s0)
set_option maxRecDepth 100000 in
set_option maxHeartbeats 4000000 in
theorem X10_plays_b102_ok {G : Gx} {p : Program} {l : Launch} {e : Env} {d : Nat} {s : State} {m : MethodId} {args : Array Value} {below : List Frame} {meth : Method} {c : Code} {A : Nat → Prop} {hr : Nat} {rec : Int32 → Int32 → St → Option (Int32 × St)} {K16 : Int32 → Int32 → Int32 → Int32 → St → Option (Int32 × St)} (C : OK shM G p s m args meth c RX10 cX10_plays 6 (some FieldType.int) A) (hd : hr + 1 ≤ d) (hH : 64 ≤ hr) (hrec0 : ∀  {l1 : Int32} {l2 : Int32} {σ : St} {x : (Int32 × St)}, rec l1 l2 σ = some x → Ct shM hr yX10_plays cX10_plays 6 (some FieldType.int) (fun G => [.ref (G.2.1 0), .int l1, .int l2]) σ (fun G => some (.int x.1)) x.2) (hK16 : ∀  {l1 : Int32} {l2 : Int32} {l3 : Int32} {l4 : Int32} {σ : St} {x : (Int32 × St)}, K16 l1 l2 l3 l4 σ = some x → Vw shM G p l e d s m args below meth c 6 A σ 16 [(0, .ref (G.2.1 0)), (1, .int l1), (2, .int l2), (3, .int l3), (4, .int l4)] [] (some (.int x.1)) x.2) {l1 : Int32} {l2 : Int32} {l3 : Int32} {l4 : Int32} {s0 : Int32} {σ : St} {x : (Int32 × St)} (h : X10_plays_b102 rec K16 l1 l2 l3 l4 s0 σ = some x) : Vw shM G p l e d s m args below meth c 6 A σ 102 [(0, .ref (G.2.1 0)), (1, .int l1), (2, .int l2), (3, .int l3), (4, .int l4)] [.int s0, .ref (G.2.1 0)] (some (.int x.1)) x.2 := by
  unfold X10_plays_b102 at h
  refine fp10_307 C oM_0 dX10_plays_102 ?_
  refine V_iinc C (w := (l4 + 1)) (lv' := [(4, .int (l4 + 1)), (0, .ref (G.2.1 0)), (1, .int l1), (2, .int l2), (3, .int l3)]) 4 dX10_plays_105 rfl (congrArg (l4 + ·) (show Int32.ofInt 1 = 1 by decide)) (by decide) rfl ?_
  refine V_goto C 16 dX10_plays_108 (by decide) ?_
  refine V_sub (lv' := [(0, .ref (G.2.1 0)), (1, .int l1), (2, .int l2), (3, .int l3), (4, .int (l4 + 1))]) [1, 2, 3, 4, 0] rfl ?_
  exact hK16 h
def X10_plays_b85 (rec : Int32 → Int32 → St → Option (Int32 × St)) (K16 : Int32 → Int32 → Int32 → Int32 → St → Option (Int32 × St)) (l1 : Int32) (l2 : Int32) (l4 : Int32) (l5 : Int32) (σ : St) : Option (Int32 × St) := if l2 = 0 then (X10_plays_b102 rec K16 l1 l2 l5 l4 l4 σ) else (X10_plays_b102 rec K16 l1 l2 l5 l4 (σ.1 0 34) σ)
set_option maxRecDepth 100000 in
set_option maxHeartbeats 4000000 in
theorem X10_plays_b85_ok {G : Gx} {p : Program} {l : Launch} {e : Env} {d : Nat} {s : State} {m : MethodId} {args : Array Value} {below : List Frame} {meth : Method} {c : Code} {A : Nat → Prop} {hr : Nat} {rec : Int32 → Int32 → St → Option (Int32 × St)} {K16 : Int32 → Int32 → Int32 → Int32 → St → Option (Int32 × St)} (C : OK shM G p s m args meth c RX10 cX10_plays 6 (some FieldType.int) A) (hd : hr + 1 ≤ d) (hH : 64 ≤ hr) (hrec0 : ∀  {l1 : Int32} {l2 : Int32} {σ : St} {x : (Int32 × St)}, rec l1 l2 σ = some x → Ct shM hr yX10_plays cX10_plays 6 (some FieldType.int) (fun G => [.ref (G.2.1 0), .int l1, .int l2]) σ (fun G => some (.int x.1)) x.2) (hK16 : ∀  {l1 : Int32} {l2 : Int32} {l3 : Int32} {l4 : Int32} {σ : St} {x : (Int32 × St)}, K16 l1 l2 l3 l4 σ = some x → Vw shM G p l e d s m args below meth c 6 A σ 16 [(0, .ref (G.2.1 0)), (1, .int l1), (2, .int l2), (3, .int l3), (4, .int l4)] [] (some (.int x.1)) x.2) {l1 : Int32} {l2 : Int32} {l4 : Int32} {l5 : Int32} {σ : St} {x : (Int32 × St)} (h : X10_plays_b85 rec K16 l1 l2 l4 l5 σ = some x) : Vw shM G p l e d s m args below meth c 6 A σ 85 [(0, .ref (G.2.1 0)), (1, .int l1), (2, .int l2), (4, .int l4), (5, .int l5)] [] (some (.int x.1)) x.2 := by
  unfold X10_plays_b85 at h
  refine V_iload C 4 dX10_plays_85 rfl ?_
  refine V_istore_n C (lv' := [(3, .int l5), (0, .ref (G.2.1 0)), (1, .int l1), (2, .int l2), (4, .int l4), (5, .int l5)]) dX10_plays_87 rfl (by decide) rfl ?_
  refine V_aload_n C 1 dX10_plays_88 rfl rfl ?_
  refine V_iload_n C 3 dX10_plays_89 rfl rfl ?_
  by_cases c1 : l2 = 0
  · rw [if_pos c1] at h
    refine V_if_neF C 98 dX10_plays_90 (by decide) c1 ?_
    refine V_iload C 4 dX10_plays_93 rfl ?_
    refine V_goto C 102 dX10_plays_95 (by decide) ?_
    refine V_sub (lv' := [(0, .ref (G.2.1 0)), (1, .int l1), (2, .int l2), (3, .int l5), (4, .int l4)]) [1, 2, 3, 0, 4] rfl ?_
    exact X10_plays_b102_ok C hd hH hrec0 hK16 h
  · rw [if_neg c1] at h
    refine V_if_neT C 98 dX10_plays_90 (by decide) c1 ?_
    refine V_aload_n C 1 dX10_plays_98 rfl rfl ?_
    refine fg10_307 C oM_0 dX10_plays_99 ?_
    refine V_sub (lv' := [(0, .ref (G.2.1 0)), (1, .int l1), (2, .int l2), (3, .int l5), (4, .int l4)]) [1, 2, 3, 0, 4] rfl ?_
    exact X10_plays_b102_ok C hd hH hrec0 hK16 h
def X10_plays_b16 (rec : Int32 → Int32 → St → Option (Int32 × St)) : Nat → Int32 → Int32 → Int32 → Int32 → St → Option (Int32 × St)
  | 0, _, _, _, _, _ => none
  | F + 1, l1, l2, l3, l4, σ => if (σ.1 0 11) ≤ l4 then (some (l3, σ)) else (if ((l1 >>> (l4 &&& 31)) &&& 1) = 1 then ((X10_comes l4 l2 σ).bind (fun x39 => (rec (l1 &&& ((1 <<< (l4 &&& 31)) ^^^ (-1))) (l2 + 1) x39).bind (fun x54 => if l3 = (-1) then (X10_plays_b85 rec (X10_plays_b16 rec F) l1 l2 l4 x54.1 x54.2) else (if (l2 - l2 / 2 * 2) = 0 then (if x54.1 ≤ l3 then (X10_plays_b16 rec F l1 l2 l3 (l4 + 1) x54.2) else (X10_plays_b85 rec (X10_plays_b16 rec F) l1 l2 l4 x54.1 x54.2)) else (if l3 ≤ x54.1 then (X10_plays_b16 rec F l1 l2 l3 (l4 + 1) x54.2) else (X10_plays_b85 rec (X10_plays_b16 rec F) l1 l2 l4 x54.1 x54.2)))))) else (X10_plays_b16 rec F l1 l2 l3 (l4 + 1) σ))
set_option maxRecDepth 100000 in
set_option maxHeartbeats 4000000 in
theorem X10_plays_b16_ok {G : Gx} {p : Program} {l : Launch} {e : Env} {d : Nat} {s : State} {m : MethodId} {args : Array Value} {below : List Frame} {meth : Method} {c : Code} {A : Nat → Prop} {hr : Nat} {rec : Int32 → Int32 → St → Option (Int32 × St)} (C : OK shM G p s m args meth c RX10 cX10_plays 6 (some FieldType.int) A) (hd : hr + 1 ≤ d) (hH : 64 ≤ hr) (hrec0 : ∀  {l1 : Int32} {l2 : Int32} {σ : St} {x : (Int32 × St)}, rec l1 l2 σ = some x → Ct shM hr yX10_plays cX10_plays 6 (some FieldType.int) (fun G => [.ref (G.2.1 0), .int l1, .int l2]) σ (fun G => some (.int x.1)) x.2) : ∀ (F : Nat) {l1 : Int32} {l2 : Int32} {l3 : Int32} {l4 : Int32} {σ : St} {x : (Int32 × St)} (h : X10_plays_b16 rec F l1 l2 l3 l4 σ = some x), Vw shM G p l e d s m args below meth c 6 A σ 16 [(0, .ref (G.2.1 0)), (1, .int l1), (2, .int l2), (3, .int l3), (4, .int l4)] [] (some (.int x.1)) x.2 := by
  intro F
  induction F with
  | zero =>
    intro l1 l2 l3 l4 σ x h
    rw [X10_plays_b16] at h
    cases h
  | succ F ih =>
    intro l1 l2 l3 l4 σ x h
    rw [X10_plays_b16] at h
    refine V_iload C 4 dX10_plays_16 rfl ?_
    refine V_aload_n C 0 dX10_plays_18 rfl rfl ?_
    refine fg10_79 C oM_0 dX10_plays_19 ?_
    by_cases c2 : (σ.1 0 11) ≤ l4
    · rw [if_pos c2] at h
      refine V_icmp_geT C 111 dX10_plays_22 (by decide) c2 ?_
      refine V_iload_n C 3 dX10_plays_111 rfl rfl ?_
      obtain rfl := Option.some.inj h
      exact V_iret C rfl rfl dX10_plays_112
    · rw [if_neg c2] at h
      refine V_icmp_geF C 111 dX10_plays_22 (by decide) c2 ?_
      refine V_iload_n C 1 dX10_plays_25 rfl rfl ?_
      refine V_iload C 4 dX10_plays_26 rfl ?_
      refine V_ishr C dX10_plays_28 ?_
      refine V_iconst C (w := 1) dX10_plays_29 (by decide) ?_
      refine V_iand C dX10_plays_30 ?_
      refine V_iconst C (w := 1) dX10_plays_31 (by decide) ?_
      by_cases c3 : ((l1 >>> (l4 &&& 31)) &&& 1) = 1
      · rw [if_pos c3] at h
        refine V_icmp_neF C 105 dX10_plays_32 (by decide) c3 ?_
        refine V_aload_n C 0 dX10_plays_35 rfl rfl ?_
        refine V_iload C 4 dX10_plays_36 rfl ?_
        refine V_iload_n C 2 dX10_plays_38 rfl rfl ?_
        obtain ⟨x39, h39, h⟩ := Option.bind_eq_some_iff.mp h
        refine V_callVv (As := [.int l4, .int l2]) C (X10_comes_ok h39) mw_X10_comes.1 mw_X10_comes.2.1 mw_X10_comes.2.2 q10_253 oM_0.1 oM_0.2.1 (by decide) rfl rfl (by omega) rfl rfl rfl (Nat.le_of_ble_eq_true rfl) dX10_plays_39 ?_
        refine V_aload_n C 0 dX10_plays_42 rfl rfl ?_
        refine V_iload_n C 1 dX10_plays_43 rfl rfl ?_
        refine V_iconst C (w := 1) dX10_plays_44 (by decide) ?_
        refine V_iload C 4 dX10_plays_45 rfl ?_
        refine V_ishl C dX10_plays_47 ?_
        refine V_iconst C (w := (-1)) dX10_plays_48 (by decide) ?_
        refine V_ixor C dX10_plays_49 ?_
        refine V_iand C dX10_plays_50 ?_
        refine V_iload_n C 2 dX10_plays_51 rfl rfl ?_
        refine V_iconst C (w := 1) dX10_plays_52 (by decide) ?_
        refine V_iadd C dX10_plays_53 ?_
        obtain ⟨x54, h54, h⟩ := Option.bind_eq_some_iff.mp h
        refine V_callVi (As := [.int (l1 &&& ((1 <<< (l4 &&& 31)) ^^^ (-1))), .int (l2 + 1)]) C (hrec0 h54) mw_X10_plays.1 mw_X10_plays.2.1 mw_X10_plays.2.2 q10_304 oM_0.1 oM_0.2.1 (by decide) rfl rfl (by omega) rfl rfl rfl (Nat.le_of_ble_eq_true rfl) dX10_plays_54 ?_
        refine V_istore C (lv' := [(5, .int x54.1), (0, .ref (G.2.1 0)), (1, .int l1), (2, .int l2), (3, .int l3), (4, .int l4)]) dX10_plays_57 (by decide) rfl ?_
        refine V_iload_n C 4 dX10_plays_59 rfl rfl ?_
        refine V_iconst C (w := (-1)) dX10_plays_60 (by decide) ?_
        by_cases c4 : l3 = (-1)
        · rw [if_pos c4] at h
          refine V_icmp_eqT C 85 dX10_plays_61 (by decide) c4 ?_
          refine V_sub (lv' := [(0, .ref (G.2.1 0)), (1, .int l1), (2, .int l2), (4, .int l4), (5, .int x54.1)]) [1, 2, 3, 5, 0] rfl ?_
          exact X10_plays_b85_ok C hd hH hrec0 (fun h => ih h) h
        · rw [if_neg c4] at h
          refine V_icmp_eqF C 85 dX10_plays_61 (by decide) c4 ?_
          refine V_iload_n C 3 dX10_plays_64 rfl rfl ?_
          refine V_iconst C (w := 2) dX10_plays_65 (by decide) ?_
          refine V_irem C dX10_plays_66 (by decide) ?_
          by_cases c5 : (l2 - l2 / 2 * 2) = 0
          · rw [if_pos c5] at h
            refine V_if_neF C 79 dX10_plays_67 (by decide) c5 ?_
            refine V_iload C 0 dX10_plays_70 rfl ?_
            refine V_iload_n C 4 dX10_plays_72 rfl rfl ?_
            by_cases c7 : x54.1 ≤ l3
            · rw [if_pos c7] at h
              refine V_icmp_leT C 105 dX10_plays_73 (by decide) c7 ?_
              refine V_iinc C (w := (l4 + 1)) (lv' := [(4, .int (l4 + 1)), (5, .int x54.1), (0, .ref (G.2.1 0)), (1, .int l1), (2, .int l2), (3, .int l3)]) 5 dX10_plays_105 rfl (congrArg (l4 + ·) (show Int32.ofInt 1 = 1 by decide)) (by decide) rfl ?_
              refine V_goto C 16 dX10_plays_108 (by decide) ?_
              refine V_sub (lv' := [(0, .ref (G.2.1 0)), (1, .int l1), (2, .int l2), (3, .int l3), (4, .int (l4 + 1))]) [2, 3, 4, 5, 0] rfl ?_
              exact ih h
            · rw [if_neg c7] at h
              refine V_icmp_leF C 105 dX10_plays_73 (by decide) c7 ?_
              refine V_goto C 85 dX10_plays_76 (by decide) ?_
              refine V_sub (lv' := [(0, .ref (G.2.1 0)), (1, .int l1), (2, .int l2), (4, .int l4), (5, .int x54.1)]) [1, 2, 3, 5, 0] rfl ?_
              exact X10_plays_b85_ok C hd hH hrec0 (fun h => ih h) h
          · rw [if_neg c5] at h
            refine V_if_neT C 79 dX10_plays_67 (by decide) c5 ?_
            refine V_iload C 0 dX10_plays_79 rfl ?_
            refine V_iload_n C 4 dX10_plays_81 rfl rfl ?_
            by_cases c6 : l3 ≤ x54.1
            · rw [if_pos c6] at h
              refine V_icmp_geT C 105 dX10_plays_82 (by decide) c6 ?_
              refine V_iinc C (w := (l4 + 1)) (lv' := [(4, .int (l4 + 1)), (5, .int x54.1), (0, .ref (G.2.1 0)), (1, .int l1), (2, .int l2), (3, .int l3)]) 5 dX10_plays_105 rfl (congrArg (l4 + ·) (show Int32.ofInt 1 = 1 by decide)) (by decide) rfl ?_
              refine V_goto C 16 dX10_plays_108 (by decide) ?_
              refine V_sub (lv' := [(0, .ref (G.2.1 0)), (1, .int l1), (2, .int l2), (3, .int l3), (4, .int (l4 + 1))]) [2, 3, 4, 5, 0] rfl ?_
              exact ih h
            · rw [if_neg c6] at h
              refine V_icmp_geF C 105 dX10_plays_82 (by decide) c6 ?_
              refine V_sub (lv' := [(0, .ref (G.2.1 0)), (1, .int l1), (2, .int l2), (4, .int l4), (5, .int x54.1)]) [1, 2, 3, 5, 0] rfl ?_
              exact X10_plays_b85_ok C hd hH hrec0 (fun h => ih h) h
      · rw [if_neg c3] at h
        refine V_icmp_neT C 105 dX10_plays_32 (by decide) c3 ?_
        refine V_iinc C (w := (l4 + 1)) (lv' := [(4, .int (l4 + 1)), (0, .ref (G.2.1 0)), (1, .int l1), (2, .int l2), (3, .int l3)]) 4 dX10_plays_105 rfl (congrArg (l4 + ·) (show Int32.ofInt 1 = 1 by decide)) (by decide) rfl ?_
        refine V_goto C 16 dX10_plays_108 (by decide) ?_
        refine V_sub (lv' := [(0, .ref (G.2.1 0)), (1, .int l1), (2, .int l2), (3, .int l3), (4, .int (l4 + 1))]) [1, 2, 3, 4, 0] rfl ?_
        exact ih h
def X10_plays (rec : Int32 → Int32 → St → Option (Int32 × St)) (l1 : Int32) (l2 : Int32) (σ : St) : Option (Int32 × St) := if l1 = 0 then (if ob l2 6 then none else (some ((σ.1 8 (l2).toNatClampNeg), σ))) else (X10_plays_b16 rec FU l1 l2 (-1) 0 σ)
set_option maxRecDepth 100000 in
set_option maxHeartbeats 4000000 in
theorem X10_plays_ok {hr : Nat} {rec : Int32 → Int32 → St → Option (Int32 × St)} (hH : 64 ≤ hr) (hrec0 : ∀  {l1 : Int32} {l2 : Int32} {σ : St} {x : (Int32 × St)}, rec l1 l2 σ = some x → Ct shM hr yX10_plays cX10_plays 6 (some FieldType.int) (fun G => [.ref (G.2.1 0), .int l1, .int l2]) σ (fun G => some (.int x.1)) x.2) {l1 : Int32} {l2 : Int32} {σ : St} {x : (Int32 × St)} (h : X10_plays rec l1 l2 σ = some x) : Ct shM (hr + 1) yX10_plays cX10_plays 6 (some FieldType.int) (fun G => [.ref (G.2.1 0), .int l1, .int l2]) σ (fun G => some (.int x.1)) x.2 := by
  refine Ct.of mw_X10_plays.1 (by decide +kernel) (fun G => Nat.le_of_ble_eq_true rfl) (fun G p l e d s m args below meth c A hd C => ?_)
  refine (?_ : Vw shM G p l e d s m args below meth c 6 A σ 0 [(0, .ref (G.2.1 0)), (1, .int l1), (2, .int l2)] [] (some (.int x.1)) x.2)
  unfold X10_plays at h
  refine V_iload_n C 1 dX10_plays_0 rfl rfl ?_
  by_cases c8 : l1 = 0
  · rw [if_pos c8] at h
    refine V_if_neF C 11 dX10_plays_1 (by decide) c8 ?_
    refine V_aload_n C 0 dX10_plays_4 rfl rfl ?_
    refine fg10_35 (r := 8) C oM_0 rfl dX10_plays_5 ?_
    refine V_iload_n C 2 dX10_plays_8 rfl rfl ?_
    have g9 : ¬ (ob l2 6) := fun g9 => by rw [if_pos g9] at h; cases h
    rw [if_neg g9] at h
    refine V_ialdO C oM_8 g9 dX10_plays_9 ?_
    obtain rfl := Option.some.inj h
    exact V_iret C rfl rfl dX10_plays_10
  · rw [if_neg c8] at h
    refine V_if_neT C 11 dX10_plays_1 (by decide) c8 ?_
    refine V_iconst C (w := (-1)) dX10_plays_11 (by decide) ?_
    refine V_istore_n C (lv' := [(3, .int (-1)), (0, .ref (G.2.1 0)), (1, .int l1), (2, .int l2)]) dX10_plays_12 rfl (by decide) rfl ?_
    refine V_iconst C (w := 0) dX10_plays_13 (by decide) ?_
    refine V_istore C (lv' := [(4, .int 0), (3, .int (-1)), (0, .ref (G.2.1 0)), (1, .int l1), (2, .int l2)]) dX10_plays_14 (by decide) rfl ?_
    refine V_sub (lv' := [(0, .ref (G.2.1 0)), (1, .int l1), (2, .int l2), (3, .int (-1)), (4, .int 0)]) [2, 3, 4, 1, 0] rfl ?_
    exact X10_plays_b16_ok C hd hH hrec0 FU h
