def X2_readNot_b86 (rec : Nat → Int32 → St → Option (Int32 × St)) (l1 : Int32) (l2 : Int32) (σ : St) : Option (Int32 × St) := (X7_step σ).bind (fun x90 => (X2_readSum rec l1 x90).bind (fun x95 => if x95.1 = 0 then (some (0, x95.2)) else ((X8_write l2 x95.2).bind (fun x106 => if x106.1 = 0 then (some (0, x106.2)) else (some (1, x106.2))))))
set_option maxRecDepth 100000 in
set_option maxHeartbeats 4000000 in
theorem X2_readNot_b86_ok {G : Gx} {p : Program} {l : Launch} {e : Env} {d : Nat} {s : State} {m : MethodId} {args : Array Value} {below : List Frame} {meth : Method} {c : Code} {A : Nat → Prop} {hr : Nat} {rec : Nat → Int32 → St → Option (Int32 × St)} (C : OK shX G p s m args meth c RX2 cX2_readNot 3 (some FieldType.boolean) A) (hd : hr + 4 ≤ d) (hH : 11 ≤ hr) (hrec0 : ∀  {l1 : Int32} {σ : St} {x : (Int32 × St)}, rec 0 l1 σ = some x → Ct shX hr yX2_readOne cX2_readOne 3 (some FieldType.boolean) (fun G => [.ref (G.2.1 25), .int l1]) σ (fun G => some (.int x.1)) x.2) (hrec1 : ∀  {l1 : Int32} {σ : St} {x : (Int32 × St)}, rec 1 l1 σ = some x → Ct shX hr yX2_readOr cX2_readOr 3 (some FieldType.boolean) (fun G => [.ref (G.2.1 25), .int l1]) σ (fun G => some (.int x.1)) x.2) (hrec2 : ∀  {l1 : Int32} {σ : St} {x : (Int32 × St)}, rec 2 l1 σ = some x → Ct shX hr yX2_readNot cX2_readNot 3 (some FieldType.boolean) (fun G => [.ref (G.2.1 25), .int l1]) σ (fun G => some (.int x.1)) x.2) {l1 : Int32} {l2 : Int32} {σ : St} {x : (Int32 × St)} (h : X2_readNot_b86 rec l1 l2 σ = some x) : Vw shX G p l e d s m args below meth c 3 A σ 86 [(0, .ref (G.2.1 25)), (1, .int l1), (2, .int l2)] [] (some (.int x.1)) x.2 := by
  unfold X2_readNot_b86 at h
  refine V_aload_n C 0 dX2_readNot_86 rfl rfl ?_
  refine fg2_9 (r := 11) C oX_25 rfl dX2_readNot_87 ?_
  obtain ⟨x90, h90, h⟩ := Option.bind_eq_some_iff.mp h
  refine V_callVv (As := []) C (X7_step_ok h90) mw_X7_step.1 mw_X7_step.2.1 mw_X7_step.2.2 q2_57 oX_11.1 oX_11.2.1 (by decide) rfl rfl (by omega) rfl rfl rfl (Nat.le_of_ble_eq_true rfl) dX2_readNot_90 ?_
  refine V_aload_n C 0 dX2_readNot_93 rfl rfl ?_
  refine V_iload_n C 1 dX2_readNot_94 rfl rfl ?_
  obtain ⟨x95, h95, h⟩ := Option.bind_eq_some_iff.mp h
  refine V_callVi (As := [.int l1]) C (X2_readSum_ok hH hrec0 hrec1 hrec2 h95) mw_X2_readSum.1 mw_X2_readSum.2.1 mw_X2_readSum.2.2 q2_69 oX_25.1 oX_25.2.1 (by decide) rfl rfl (by omega) rfl rfl rfl (Nat.le_of_ble_eq_true rfl) dX2_readNot_95 ?_
  by_cases c1 : x95.1 = 0
  · rw [if_pos c1] at h
    refine V_if_eqT C 116 dX2_readNot_98 (by decide) c1 ?_
    refine V_iconst C (w := 0) dX2_readNot_116 (by decide) ?_
    obtain rfl := Option.some.inj h
    exact V_iret C rfl (nz (Or.inl rfl)) dX2_readNot_117
  · rw [if_neg c1] at h
    refine V_if_eqF C 116 dX2_readNot_98 (by decide) c1 ?_
    refine V_aload_n C 0 dX2_readNot_101 rfl rfl ?_
    refine fg2_15 (r := 13) C oX_25 rfl dX2_readNot_102 ?_
    refine V_iload_n C 2 dX2_readNot_105 rfl rfl ?_
    obtain ⟨x106, h106, h⟩ := Option.bind_eq_some_iff.mp h
    refine V_callVi (As := [.int l2]) C (X8_write_ok h106) mw_X8_write.1 mw_X8_write.2.1 mw_X8_write.2.2 q2_63 oX_13.1 oX_13.2.1 (by decide) rfl rfl (by omega) rfl rfl rfl (Nat.le_of_ble_eq_true rfl) dX2_readNot_106 ?_
    by_cases c2 : x106.1 = 0
    · rw [if_pos c2] at h
      refine V_if_eqT C 116 dX2_readNot_109 (by decide) c2 ?_
      refine V_iconst C (w := 0) dX2_readNot_116 (by decide) ?_
      obtain rfl := Option.some.inj h
      exact V_iret C rfl (nz (Or.inl rfl)) dX2_readNot_117
    · rw [if_neg c2] at h
      refine V_if_eqF C 116 dX2_readNot_109 (by decide) c2 ?_
      refine V_iconst C (w := 1) dX2_readNot_112 (by decide) ?_
      refine V_goto C 117 dX2_readNot_113 (by decide) ?_
      obtain rfl := Option.some.inj h
      exact V_iret C rfl (nz (Or.inr rfl)) dX2_readNot_117
def X2_readNot (rec : Nat → Int32 → St → Option (Int32 × St)) (l1 : Int32) (σ : St) : Option (Int32 × St) := if (σ.1 11 2) = (-9) then (if l1 < 5 then ((X7_step σ).bind (fun x23 => (rec 2 (l1 + 1) x23).bind (fun x30 => if x30.1 = 0 then (some (0, x30.2)) else ((X8_write (-9) x30.2).bind (fun x42 => if x42.1 = 0 then (some (0, x42.2)) else (some (1, x42.2))))))) else (some (0, σ))) else ((X2_readSum rec l1 σ).bind (fun x56 => if x56.1 = 0 then (some (0, x56.2)) else (if (x56.2.1 11 2) = (-10) then (X2_readNot_b86 rec l1 (x56.2.1 11 2) x56.2) else (if (x56.2.1 11 2) = (-11) then (X2_readNot_b86 rec l1 (x56.2.1 11 2) x56.2) else (some (1, x56.2))))))
set_option maxRecDepth 100000 in
set_option maxHeartbeats 4000000 in
theorem X2_readNot_ok {hr : Nat} {rec : Nat → Int32 → St → Option (Int32 × St)} (hH : 11 ≤ hr) (hrec0 : ∀  {l1 : Int32} {σ : St} {x : (Int32 × St)}, rec 0 l1 σ = some x → Ct shX hr yX2_readOne cX2_readOne 3 (some FieldType.boolean) (fun G => [.ref (G.2.1 25), .int l1]) σ (fun G => some (.int x.1)) x.2) (hrec1 : ∀  {l1 : Int32} {σ : St} {x : (Int32 × St)}, rec 1 l1 σ = some x → Ct shX hr yX2_readOr cX2_readOr 3 (some FieldType.boolean) (fun G => [.ref (G.2.1 25), .int l1]) σ (fun G => some (.int x.1)) x.2) (hrec2 : ∀  {l1 : Int32} {σ : St} {x : (Int32 × St)}, rec 2 l1 σ = some x → Ct shX hr yX2_readNot cX2_readNot 3 (some FieldType.boolean) (fun G => [.ref (G.2.1 25), .int l1]) σ (fun G => some (.int x.1)) x.2) {l1 : Int32} {σ : St} {x : (Int32 × St)} (h : X2_readNot rec l1 σ = some x) : Ct shX (hr + 4) yX2_readNot cX2_readNot 3 (some FieldType.boolean) (fun G => [.ref (G.2.1 25), .int l1]) σ (fun G => some (.int x.1)) x.2 := by
  refine Ct.of mw_X2_readNot.1 (by decide +kernel) (fun G => Nat.le_of_ble_eq_true rfl) (fun G p l e d s m args below meth c A hd C => ?_)
  refine (?_ : Vw shX G p l e d s m args below meth c 3 A σ 0 [(0, .ref (G.2.1 25)), (1, .int l1)] [] (some (.int x.1)) x.2)
  unfold X2_readNot at h
  refine V_aload_n C 0 dX2_readNot_0 rfl rfl ?_
  refine fg2_9 (r := 11) C oX_25 rfl dX2_readNot_1 ?_
  refine fg2_33 C oX_11 dX2_readNot_4 ?_
  refine V_bipush C (w := (-9)) dX2_readNot_7 (by decide) ?_
  by_cases c3 : (σ.1 11 2) = (-9)
  · rw [if_pos c3] at h
    refine V_icmp_neF C 54 dX2_readNot_9 (by decide) c3 ?_
    refine V_iload_n C 1 dX2_readNot_12 rfl rfl ?_
    refine V_iconst C (w := 5) dX2_readNot_13 (by decide) ?_
    by_cases c7 : l1 < 5
    · rw [if_pos c7] at h
      refine V_icmp_ltT C 19 dX2_readNot_14 (by decide) c7 ?_
      refine V_aload_n C 0 dX2_readNot_19 rfl rfl ?_
      refine fg2_9 (r := 11) C oX_25 rfl dX2_readNot_20 ?_
      obtain ⟨x23, h23, h⟩ := Option.bind_eq_some_iff.mp h
      refine V_callVv (As := []) C (X7_step_ok h23) mw_X7_step.1 mw_X7_step.2.1 mw_X7_step.2.2 q2_57 oX_11.1 oX_11.2.1 (by decide) rfl rfl (by omega) rfl rfl rfl (Nat.le_of_ble_eq_true rfl) dX2_readNot_23 ?_
      refine V_aload_n C 0 dX2_readNot_26 rfl rfl ?_
      refine V_iload_n C 1 dX2_readNot_27 rfl rfl ?_
      refine V_iconst C (w := 1) dX2_readNot_28 (by decide) ?_
      refine V_iadd C dX2_readNot_29 ?_
      obtain ⟨x30, h30, h⟩ := Option.bind_eq_some_iff.mp h
      refine V_callVi (As := [.int (l1 + 1)]) C (hrec2 h30) mw_X2_readNot.1 mw_X2_readNot.2.1 mw_X2_readNot.2.2 q2_66 oX_25.1 oX_25.2.1 (by decide) rfl rfl (by omega) rfl rfl rfl (Nat.le_of_ble_eq_true rfl) dX2_readNot_30 ?_
      by_cases c8 : x30.1 = 0
      · rw [if_pos c8] at h
        refine V_if_eqT C 52 dX2_readNot_33 (by decide) c8 ?_
        refine V_iconst C (w := 0) dX2_readNot_52 (by decide) ?_
        obtain rfl := Option.some.inj h
        exact V_iret C rfl (nz (Or.inl rfl)) dX2_readNot_53
      · rw [if_neg c8] at h
        refine V_if_eqF C 52 dX2_readNot_33 (by decide) c8 ?_
        refine V_aload_n C 0 dX2_readNot_36 rfl rfl ?_
        refine fg2_15 (r := 13) C oX_25 rfl dX2_readNot_37 ?_
        refine V_bipush C (w := (-9)) dX2_readNot_40 (by decide) ?_
        obtain ⟨x42, h42, h⟩ := Option.bind_eq_some_iff.mp h
        refine V_callVi (As := [.int (-9)]) C (X8_write_ok h42) mw_X8_write.1 mw_X8_write.2.1 mw_X8_write.2.2 q2_63 oX_13.1 oX_13.2.1 (by decide) rfl rfl (by omega) rfl rfl rfl (Nat.le_of_ble_eq_true rfl) dX2_readNot_42 ?_
        by_cases c9 : x42.1 = 0
        · rw [if_pos c9] at h
          refine V_if_eqT C 52 dX2_readNot_45 (by decide) c9 ?_
          refine V_iconst C (w := 0) dX2_readNot_52 (by decide) ?_
          obtain rfl := Option.some.inj h
          exact V_iret C rfl (nz (Or.inl rfl)) dX2_readNot_53
        · rw [if_neg c9] at h
          refine V_if_eqF C 52 dX2_readNot_45 (by decide) c9 ?_
          refine V_iconst C (w := 1) dX2_readNot_48 (by decide) ?_
          refine V_goto C 53 dX2_readNot_49 (by decide) ?_
          obtain rfl := Option.some.inj h
          exact V_iret C rfl (nz (Or.inr rfl)) dX2_readNot_53
    · rw [if_neg c7] at h
      refine V_icmp_ltF C 19 dX2_readNot_14 (by decide) c7 ?_
      refine V_iconst C (w := 0) dX2_readNot_17 (by decide) ?_
      obtain rfl := Option.some.inj h
      exact V_iret C rfl (nz (Or.inl rfl)) dX2_readNot_18
  · rw [if_neg c3] at h
    refine V_icmp_neT C 54 dX2_readNot_9 (by decide) c3 ?_
    refine V_aload_n C 0 dX2_readNot_54 rfl rfl ?_
    refine V_iload_n C 1 dX2_readNot_55 rfl rfl ?_
    obtain ⟨x56, h56, h⟩ := Option.bind_eq_some_iff.mp h
    refine V_callVi (As := [.int l1]) C (X2_readSum_ok hH hrec0 hrec1 hrec2 h56) mw_X2_readSum.1 mw_X2_readSum.2.1 mw_X2_readSum.2.2 q2_69 oX_25.1 oX_25.2.1 (by decide) rfl rfl (by omega) rfl rfl rfl (Nat.le_of_ble_eq_true rfl) dX2_readNot_56 ?_
    by_cases c4 : x56.1 = 0
    · rw [if_pos c4] at h
      refine V_if_neF C 64 dX2_readNot_59 (by decide) c4 ?_
      refine V_iconst C (w := 0) dX2_readNot_62 (by decide) ?_
      obtain rfl := Option.some.inj h
      exact V_iret C rfl (nz (Or.inl rfl)) dX2_readNot_63
    · rw [if_neg c4] at h
      refine V_if_neT C 64 dX2_readNot_59 (by decide) c4 ?_
      refine V_aload_n C 0 dX2_readNot_64 rfl rfl ?_
      refine fg2_9 (r := 11) C oX_25 rfl dX2_readNot_65 ?_
      refine fg2_33 C oX_11 dX2_readNot_68 ?_
      refine V_istore_n C (lv' := [(2, .int (x56.2.1 11 2)), (0, .ref (G.2.1 25)), (1, .int l1)]) dX2_readNot_71 rfl (by decide) rfl ?_
      refine V_iload_n C 0 dX2_readNot_72 rfl rfl ?_
      refine V_bipush C (w := (-10)) dX2_readNot_73 (by decide) ?_
      by_cases c5 : (x56.2.1 11 2) = (-10)
      · rw [if_pos c5] at h
        refine V_icmp_eqT C 86 dX2_readNot_75 (by decide) c5 ?_
        refine V_sub (lv' := [(0, .ref (G.2.1 25)), (1, .int l1), (2, .int (x56.2.1 11 2))]) [1, 2, 0] rfl ?_
        exact X2_readNot_b86_ok C hd hH hrec0 hrec1 hrec2 h
      · rw [if_neg c5] at h
        refine V_icmp_eqF C 86 dX2_readNot_75 (by decide) c5 ?_
        refine V_iload_n C 0 dX2_readNot_78 rfl rfl ?_
        refine V_bipush C (w := (-11)) dX2_readNot_79 (by decide) ?_
        by_cases c6 : (x56.2.1 11 2) = (-11)
        · rw [if_pos c6] at h
          refine V_icmp_eqT C 86 dX2_readNot_81 (by decide) c6 ?_
          refine V_sub (lv' := [(0, .ref (G.2.1 25)), (1, .int l1), (2, .int (x56.2.1 11 2))]) [1, 2, 0] rfl ?_
          exact X2_readNot_b86_ok C hd hH hrec0 hrec1 hrec2 h
        · rw [if_neg c6] at h
          refine V_icmp_eqF C 86 dX2_readNot_81 (by decide) c6 ?_
          refine V_iconst C (w := 1) dX2_readNot_84 (by decide) ?_
          obtain rfl := Option.some.inj h
          exact V_iret C rfl (nz (Or.inr rfl)) dX2_readNot_85
def X2_readAnd_b12 (rec : Nat → Int32 → St → Option (Int32 × St)) : Nat → Int32 → Int32 → St → Option (Int32 × St)
  | 0, _, _, _ => none
  | F + 1, l1, l2, σ => if 160 ≤ l2 then (some (1, σ)) else (if (σ.1 11 2) = (-8) then ((X7_step σ).bind (fun x35 => (X2_readNot rec l1 x35).bind (fun x40 => if x40.1 = 0 then (some (0, x40.2)) else ((X8_write (-8) x40.2).bind (fun x52 => if x52.1 = 0 then (some (0, x52.2)) else (X2_readAnd_b12 rec F l1 (l2 + 1) x52.2)))))) else (some (1, σ)))
set_option maxRecDepth 100000 in
set_option maxHeartbeats 4000000 in
theorem X2_readAnd_b12_ok {G : Gx} {p : Program} {l : Launch} {e : Env} {d : Nat} {s : State} {m : MethodId} {args : Array Value} {below : List Frame} {meth : Method} {c : Code} {A : Nat → Prop} {hr : Nat} {rec : Nat → Int32 → St → Option (Int32 × St)} (C : OK shX G p s m args meth c RX2 cX2_readAnd 3 (some FieldType.boolean) A) (hd : hr + 5 ≤ d) (hH : 11 ≤ hr) (hrec0 : ∀  {l1 : Int32} {σ : St} {x : (Int32 × St)}, rec 0 l1 σ = some x → Ct shX hr yX2_readOne cX2_readOne 3 (some FieldType.boolean) (fun G => [.ref (G.2.1 25), .int l1]) σ (fun G => some (.int x.1)) x.2) (hrec1 : ∀  {l1 : Int32} {σ : St} {x : (Int32 × St)}, rec 1 l1 σ = some x → Ct shX hr yX2_readOr cX2_readOr 3 (some FieldType.boolean) (fun G => [.ref (G.2.1 25), .int l1]) σ (fun G => some (.int x.1)) x.2) (hrec2 : ∀  {l1 : Int32} {σ : St} {x : (Int32 × St)}, rec 2 l1 σ = some x → Ct shX hr yX2_readNot cX2_readNot 3 (some FieldType.boolean) (fun G => [.ref (G.2.1 25), .int l1]) σ (fun G => some (.int x.1)) x.2) : ∀ (F : Nat) {l1 : Int32} {l2 : Int32} {σ : St} {x : (Int32 × St)} (h : X2_readAnd_b12 rec F l1 l2 σ = some x), Vw shX G p l e d s m args below meth c 3 A σ 12 [(0, .ref (G.2.1 25)), (1, .int l1), (2, .int l2)] [] (some (.int x.1)) x.2 := by
  intro F
  induction F with
  | zero =>
    intro l1 l2 σ x h
    rw [X2_readAnd_b12] at h
    cases h
  | succ F ih =>
    intro l1 l2 σ x h
    rw [X2_readAnd_b12] at h
    refine V_iload_n C 2 dX2_readAnd_12 rfl rfl ?_
    refine V_sipush C (w := 160) dX2_readAnd_13 (by decide) ?_
    by_cases c1 : 160 ≤ l2
    · rw [if_pos c1] at h
      refine V_icmp_geT C 66 dX2_readAnd_16 (by decide) c1 ?_
      refine V_iconst C (w := 1) dX2_readAnd_66 (by decide) ?_
      obtain rfl := Option.some.inj h
      exact V_iret C rfl (nz (Or.inr rfl)) dX2_readAnd_67
    · rw [if_neg c1] at h
      refine V_icmp_geF C 66 dX2_readAnd_16 (by decide) c1 ?_
      refine V_aload_n C 0 dX2_readAnd_19 rfl rfl ?_
      refine fg2_9 (r := 11) C oX_25 rfl dX2_readAnd_20 ?_
      refine fg2_33 C oX_11 dX2_readAnd_23 ?_
      refine V_bipush C (w := (-8)) dX2_readAnd_26 (by decide) ?_
      by_cases c2 : (σ.1 11 2) = (-8)
      · rw [if_pos c2] at h
        refine V_icmp_neF C 66 dX2_readAnd_28 (by decide) c2 ?_
        refine V_aload_n C 0 dX2_readAnd_31 rfl rfl ?_
        refine fg2_9 (r := 11) C oX_25 rfl dX2_readAnd_32 ?_
        obtain ⟨x35, h35, h⟩ := Option.bind_eq_some_iff.mp h
        refine V_callVv (As := []) C (X7_step_ok h35) mw_X7_step.1 mw_X7_step.2.1 mw_X7_step.2.2 q2_57 oX_11.1 oX_11.2.1 (by decide) rfl rfl (by omega) rfl rfl rfl (Nat.le_of_ble_eq_true rfl) dX2_readAnd_35 ?_
        refine V_aload_n C 0 dX2_readAnd_38 rfl rfl ?_
        refine V_iload_n C 1 dX2_readAnd_39 rfl rfl ?_
        obtain ⟨x40, h40, h⟩ := Option.bind_eq_some_iff.mp h
        refine V_callVi (As := [.int l1]) C (X2_readNot_ok hH hrec0 hrec1 hrec2 h40) mw_X2_readNot.1 mw_X2_readNot.2.1 mw_X2_readNot.2.2 q2_66 oX_25.1 oX_25.2.1 (by decide) rfl rfl (by omega) rfl rfl rfl (Nat.le_of_ble_eq_true rfl) dX2_readAnd_40 ?_
        by_cases c3 : x40.1 = 0
        · rw [if_pos c3] at h
          refine V_if_eqT C 58 dX2_readAnd_43 (by decide) c3 ?_
          refine V_iconst C (w := 0) dX2_readAnd_58 (by decide) ?_
          obtain rfl := Option.some.inj h
          exact V_iret C rfl (nz (Or.inl rfl)) dX2_readAnd_59
        · rw [if_neg c3] at h
          refine V_if_eqF C 58 dX2_readAnd_43 (by decide) c3 ?_
          refine V_aload_n C 0 dX2_readAnd_46 rfl rfl ?_
          refine fg2_15 (r := 13) C oX_25 rfl dX2_readAnd_47 ?_
          refine V_bipush C (w := (-8)) dX2_readAnd_50 (by decide) ?_
          obtain ⟨x52, h52, h⟩ := Option.bind_eq_some_iff.mp h
          refine V_callVi (As := [.int (-8)]) C (X8_write_ok h52) mw_X8_write.1 mw_X8_write.2.1 mw_X8_write.2.2 q2_63 oX_13.1 oX_13.2.1 (by decide) rfl rfl (by omega) rfl rfl rfl (Nat.le_of_ble_eq_true rfl) dX2_readAnd_52 ?_
          by_cases c4 : x52.1 = 0
          · rw [if_pos c4] at h
            refine V_if_neF C 60 dX2_readAnd_55 (by decide) c4 ?_
            refine V_iconst C (w := 0) dX2_readAnd_58 (by decide) ?_
            obtain rfl := Option.some.inj h
            exact V_iret C rfl (nz (Or.inl rfl)) dX2_readAnd_59
          · rw [if_neg c4] at h
            refine V_if_neT C 60 dX2_readAnd_55 (by decide) c4 ?_
            refine V_iinc C (w := (l2 + 1)) (lv' := [(2, .int (l2 + 1)), (0, .ref (G.2.1 25)), (1, .int l1)]) 2 dX2_readAnd_60 rfl (congrArg (l2 + ·) (show Int32.ofInt 1 = 1 by decide)) (by decide) rfl ?_
            refine V_goto C 12 dX2_readAnd_63 (by decide) ?_
            refine V_sub (lv' := [(0, .ref (G.2.1 25)), (1, .int l1), (2, .int (l2 + 1))]) [1, 2, 0] rfl ?_
            exact ih h
      · rw [if_neg c2] at h
        refine V_icmp_neT C 66 dX2_readAnd_28 (by decide) c2 ?_
        refine V_iconst C (w := 1) dX2_readAnd_66 (by decide) ?_
        obtain rfl := Option.some.inj h
        exact V_iret C rfl (nz (Or.inr rfl)) dX2_readAnd_67
def X2_readAnd (rec : Nat → Int32 → St → Option (Int32 × St)) (l1 : Int32) (σ : St) : Option (Int32 × St) := (X2_readNot rec l1 σ).bind (fun x2 => if x2.1 = 0 then (some (0, x2.2)) else (X2_readAnd_b12 rec FU l1 0 x2.2))
set_option maxRecDepth 100000 in
set_option maxHeartbeats 4000000 in
theorem X2_readAnd_ok {hr : Nat} {rec : Nat → Int32 → St → Option (Int32 × St)} (hH : 11 ≤ hr) (hrec0 : ∀  {l1 : Int32} {σ : St} {x : (Int32 × St)}, rec 0 l1 σ = some x → Ct shX hr yX2_readOne cX2_readOne 3 (some FieldType.boolean) (fun G => [.ref (G.2.1 25), .int l1]) σ (fun G => some (.int x.1)) x.2) (hrec1 : ∀  {l1 : Int32} {σ : St} {x : (Int32 × St)}, rec 1 l1 σ = some x → Ct shX hr yX2_readOr cX2_readOr 3 (some FieldType.boolean) (fun G => [.ref (G.2.1 25), .int l1]) σ (fun G => some (.int x.1)) x.2) (hrec2 : ∀  {l1 : Int32} {σ : St} {x : (Int32 × St)}, rec 2 l1 σ = some x → Ct shX hr yX2_readNot cX2_readNot 3 (some FieldType.boolean) (fun G => [.ref (G.2.1 25), .int l1]) σ (fun G => some (.int x.1)) x.2) {l1 : Int32} {σ : St} {x : (Int32 × St)} (h : X2_readAnd rec l1 σ = some x) : Ct shX (hr + 5) yX2_readAnd cX2_readAnd 3 (some FieldType.boolean) (fun G => [.ref (G.2.1 25), .int l1]) σ (fun G => some (.int x.1)) x.2 := by
  refine Ct.of mw_X2_readAnd.1 (by decide +kernel) (fun G => Nat.le_of_ble_eq_true rfl) (fun G p l e d s m args below meth c A hd C => ?_)
  refine (?_ : Vw shX G p l e d s m args below meth c 3 A σ 0 [(0, .ref (G.2.1 25)), (1, .int l1)] [] (some (.int x.1)) x.2)
  unfold X2_readAnd at h
  refine V_aload_n C 0 dX2_readAnd_0 rfl rfl ?_
  refine V_iload_n C 1 dX2_readAnd_1 rfl rfl ?_
  obtain ⟨x2, h2, h⟩ := Option.bind_eq_some_iff.mp h
  refine V_callVi (As := [.int l1]) C (X2_readNot_ok hH hrec0 hrec1 hrec2 h2) mw_X2_readNot.1 mw_X2_readNot.2.1 mw_X2_readNot.2.2 q2_66 oX_25.1 oX_25.2.1 (by decide) rfl rfl (by omega) rfl rfl rfl (Nat.le_of_ble_eq_true rfl) dX2_readAnd_2 ?_
  by_cases c5 : x2.1 = 0
  · rw [if_pos c5] at h
    refine V_if_neF C 10 dX2_readAnd_5 (by decide) c5 ?_
    refine V_iconst C (w := 0) dX2_readAnd_8 (by decide) ?_
    obtain rfl := Option.some.inj h
    exact V_iret C rfl (nz (Or.inl rfl)) dX2_readAnd_9
  · rw [if_neg c5] at h
    refine V_if_neT C 10 dX2_readAnd_5 (by decide) c5 ?_
    refine V_iconst C (w := 0) dX2_readAnd_10 (by decide) ?_
    refine V_istore_n C (lv' := [(2, .int 0), (0, .ref (G.2.1 25)), (1, .int l1)]) dX2_readAnd_11 rfl (by decide) rfl ?_
    refine V_sub (lv' := [(0, .ref (G.2.1 25)), (1, .int l1), (2, .int 0)]) [1, 2, 0] rfl ?_
    exact X2_readAnd_b12_ok C hd hH hrec0 hrec1 hrec2 FU h
def X2_readOr_b12 (rec : Nat → Int32 → St → Option (Int32 × St)) : Nat → Int32 → Int32 → St → Option (Int32 × St)
  | 0, _, _, _ => none
  | F + 1, l1, l2, σ => if 160 ≤ l2 then (some (1, σ)) else (if (σ.1 11 2) = (-7) then ((X7_step σ).bind (fun x35 => (X2_readAnd rec l1 x35).bind (fun x40 => if x40.1 = 0 then (some (0, x40.2)) else ((X8_write (-7) x40.2).bind (fun x52 => if x52.1 = 0 then (some (0, x52.2)) else (X2_readOr_b12 rec F l1 (l2 + 1) x52.2)))))) else (some (1, σ)))
set_option maxRecDepth 100000 in
set_option maxHeartbeats 4000000 in
theorem X2_readOr_b12_ok {G : Gx} {p : Program} {l : Launch} {e : Env} {d : Nat} {s : State} {m : MethodId} {args : Array Value} {below : List Frame} {meth : Method} {c : Code} {A : Nat → Prop} {hr : Nat} {rec : Nat → Int32 → St → Option (Int32 × St)} (C : OK shX G p s m args meth c RX2 cX2_readOr 3 (some FieldType.boolean) A) (hd : hr + 6 ≤ d) (hH : 11 ≤ hr) (hrec0 : ∀  {l1 : Int32} {σ : St} {x : (Int32 × St)}, rec 0 l1 σ = some x → Ct shX hr yX2_readOne cX2_readOne 3 (some FieldType.boolean) (fun G => [.ref (G.2.1 25), .int l1]) σ (fun G => some (.int x.1)) x.2) (hrec1 : ∀  {l1 : Int32} {σ : St} {x : (Int32 × St)}, rec 1 l1 σ = some x → Ct shX hr yX2_readOr cX2_readOr 3 (some FieldType.boolean) (fun G => [.ref (G.2.1 25), .int l1]) σ (fun G => some (.int x.1)) x.2) (hrec2 : ∀  {l1 : Int32} {σ : St} {x : (Int32 × St)}, rec 2 l1 σ = some x → Ct shX hr yX2_readNot cX2_readNot 3 (some FieldType.boolean) (fun G => [.ref (G.2.1 25), .int l1]) σ (fun G => some (.int x.1)) x.2) : ∀ (F : Nat) {l1 : Int32} {l2 : Int32} {σ : St} {x : (Int32 × St)} (h : X2_readOr_b12 rec F l1 l2 σ = some x), Vw shX G p l e d s m args below meth c 3 A σ 12 [(0, .ref (G.2.1 25)), (1, .int l1), (2, .int l2)] [] (some (.int x.1)) x.2 := by
  intro F
  induction F with
  | zero =>
    intro l1 l2 σ x h
    rw [X2_readOr_b12] at h
    cases h
  | succ F ih =>
    intro l1 l2 σ x h
    rw [X2_readOr_b12] at h
    refine V_iload_n C 2 dX2_readOr_12 rfl rfl ?_
    refine V_sipush C (w := 160) dX2_readOr_13 (by decide) ?_
    by_cases c1 : 160 ≤ l2
    · rw [if_pos c1] at h
      refine V_icmp_geT C 66 dX2_readOr_16 (by decide) c1 ?_
      refine V_iconst C (w := 1) dX2_readOr_66 (by decide) ?_
      obtain rfl := Option.some.inj h
      exact V_iret C rfl (nz (Or.inr rfl)) dX2_readOr_67
    · rw [if_neg c1] at h
      refine V_icmp_geF C 66 dX2_readOr_16 (by decide) c1 ?_
      refine V_aload_n C 0 dX2_readOr_19 rfl rfl ?_
      refine fg2_9 (r := 11) C oX_25 rfl dX2_readOr_20 ?_
      refine fg2_33 C oX_11 dX2_readOr_23 ?_
      refine V_bipush C (w := (-7)) dX2_readOr_26 (by decide) ?_
      by_cases c2 : (σ.1 11 2) = (-7)
      · rw [if_pos c2] at h
        refine V_icmp_neF C 66 dX2_readOr_28 (by decide) c2 ?_
        refine V_aload_n C 0 dX2_readOr_31 rfl rfl ?_
        refine fg2_9 (r := 11) C oX_25 rfl dX2_readOr_32 ?_
        obtain ⟨x35, h35, h⟩ := Option.bind_eq_some_iff.mp h
        refine V_callVv (As := []) C (X7_step_ok h35) mw_X7_step.1 mw_X7_step.2.1 mw_X7_step.2.2 q2_57 oX_11.1 oX_11.2.1 (by decide) rfl rfl (by omega) rfl rfl rfl (Nat.le_of_ble_eq_true rfl) dX2_readOr_35 ?_
        refine V_aload_n C 0 dX2_readOr_38 rfl rfl ?_
        refine V_iload_n C 1 dX2_readOr_39 rfl rfl ?_
        obtain ⟨x40, h40, h⟩ := Option.bind_eq_some_iff.mp h
        refine V_callVi (As := [.int l1]) C (X2_readAnd_ok hH hrec0 hrec1 hrec2 h40) mw_X2_readAnd.1 mw_X2_readAnd.2.1 mw_X2_readAnd.2.2 q2_60 oX_25.1 oX_25.2.1 (by decide) rfl rfl (by omega) rfl rfl rfl (Nat.le_of_ble_eq_true rfl) dX2_readOr_40 ?_
        by_cases c3 : x40.1 = 0
        · rw [if_pos c3] at h
          refine V_if_eqT C 58 dX2_readOr_43 (by decide) c3 ?_
          refine V_iconst C (w := 0) dX2_readOr_58 (by decide) ?_
          obtain rfl := Option.some.inj h
          exact V_iret C rfl (nz (Or.inl rfl)) dX2_readOr_59
        · rw [if_neg c3] at h
          refine V_if_eqF C 58 dX2_readOr_43 (by decide) c3 ?_
          refine V_aload_n C 0 dX2_readOr_46 rfl rfl ?_
          refine fg2_15 (r := 13) C oX_25 rfl dX2_readOr_47 ?_
          refine V_bipush C (w := (-7)) dX2_readOr_50 (by decide) ?_
          obtain ⟨x52, h52, h⟩ := Option.bind_eq_some_iff.mp h
          refine V_callVi (As := [.int (-7)]) C (X8_write_ok h52) mw_X8_write.1 mw_X8_write.2.1 mw_X8_write.2.2 q2_63 oX_13.1 oX_13.2.1 (by decide) rfl rfl (by omega) rfl rfl rfl (Nat.le_of_ble_eq_true rfl) dX2_readOr_52 ?_
          by_cases c4 : x52.1 = 0
          · rw [if_pos c4] at h
            refine V_if_neF C 60 dX2_readOr_55 (by decide) c4 ?_
            refine V_iconst C (w := 0) dX2_readOr_58 (by decide) ?_
            obtain rfl := Option.some.inj h
            exact V_iret C rfl (nz (Or.inl rfl)) dX2_readOr_59
          · rw [if_neg c4] at h
            refine V_if_neT C 60 dX2_readOr_55 (by decide) c4 ?_
            refine V_iinc C (w := (l2 + 1)) (lv' := [(2, .int (l2 + 1)), (0, .ref (G.2.1 25)), (1, .int l1)]) 2 dX2_readOr_60 rfl (congrArg (l2 + ·) (show Int32.ofInt 1 = 1 by decide)) (by decide) rfl ?_
            refine V_goto C 12 dX2_readOr_63 (by decide) ?_
            refine V_sub (lv' := [(0, .ref (G.2.1 25)), (1, .int l1), (2, .int (l2 + 1))]) [1, 2, 0] rfl ?_
            exact ih h
      · rw [if_neg c2] at h
        refine V_icmp_neT C 66 dX2_readOr_28 (by decide) c2 ?_
        refine V_iconst C (w := 1) dX2_readOr_66 (by decide) ?_
        obtain rfl := Option.some.inj h
        exact V_iret C rfl (nz (Or.inr rfl)) dX2_readOr_67
def X2_readOr (rec : Nat → Int32 → St → Option (Int32 × St)) (l1 : Int32) (σ : St) : Option (Int32 × St) := (X2_readAnd rec l1 σ).bind (fun x2 => if x2.1 = 0 then (some (0, x2.2)) else (X2_readOr_b12 rec FU l1 0 x2.2))
set_option maxRecDepth 100000 in
set_option maxHeartbeats 4000000 in
theorem X2_readOr_ok {hr : Nat} {rec : Nat → Int32 → St → Option (Int32 × St)} (hH : 11 ≤ hr) (hrec0 : ∀  {l1 : Int32} {σ : St} {x : (Int32 × St)}, rec 0 l1 σ = some x → Ct shX hr yX2_readOne cX2_readOne 3 (some FieldType.boolean) (fun G => [.ref (G.2.1 25), .int l1]) σ (fun G => some (.int x.1)) x.2) (hrec1 : ∀  {l1 : Int32} {σ : St} {x : (Int32 × St)}, rec 1 l1 σ = some x → Ct shX hr yX2_readOr cX2_readOr 3 (some FieldType.boolean) (fun G => [.ref (G.2.1 25), .int l1]) σ (fun G => some (.int x.1)) x.2) (hrec2 : ∀  {l1 : Int32} {σ : St} {x : (Int32 × St)}, rec 2 l1 σ = some x → Ct shX hr yX2_readNot cX2_readNot 3 (some FieldType.boolean) (fun G => [.ref (G.2.1 25), .int l1]) σ (fun G => some (.int x.1)) x.2) {l1 : Int32} {σ : St} {x : (Int32 × St)} (h : X2_readOr rec l1 σ = some x) : Ct shX (hr + 6) yX2_readOr cX2_readOr 3 (some FieldType.boolean) (fun G => [.ref (G.2.1 25), .int l1]) σ (fun G => some (.int x.1)) x.2 := by
  refine Ct.of mw_X2_readOr.1 (by decide +kernel) (fun G => Nat.le_of_ble_eq_true rfl) (fun G p l e d s m args below meth c A hd C => ?_)
  refine (?_ : Vw shX G p l e d s m args below meth c 3 A σ 0 [(0, .ref (G.2.1 25)), (1, .int l1)] [] (some (.int x.1)) x.2)
  unfold X2_readOr at h
  refine V_aload_n C 0 dX2_readOr_0 rfl rfl ?_
  refine V_iload_n C 1 dX2_readOr_1 rfl rfl ?_
  obtain ⟨x2, h2, h⟩ := Option.bind_eq_some_iff.mp h
  refine V_callVi (As := [.int l1]) C (X2_readAnd_ok hH hrec0 hrec1 hrec2 h2) mw_X2_readAnd.1 mw_X2_readAnd.2.1 mw_X2_readAnd.2.2 q2_60 oX_25.1 oX_25.2.1 (by decide) rfl rfl (by omega) rfl rfl rfl (Nat.le_of_ble_eq_true rfl) dX2_readOr_2 ?_
  by_cases c5 : x2.1 = 0
  · rw [if_pos c5] at h
    refine V_if_neF C 10 dX2_readOr_5 (by decide) c5 ?_
    refine V_iconst C (w := 0) dX2_readOr_8 (by decide) ?_
    obtain rfl := Option.some.inj h
    exact V_iret C rfl (nz (Or.inl rfl)) dX2_readOr_9
  · rw [if_neg c5] at h
    refine V_if_neT C 10 dX2_readOr_5 (by decide) c5 ?_
    refine V_iconst C (w := 0) dX2_readOr_10 (by decide) ?_
    refine V_istore_n C (lv' := [(2, .int 0), (0, .ref (G.2.1 25)), (1, .int l1)]) dX2_readOr_11 rfl (by decide) rfl ?_
    refine V_sub (lv' := [(0, .ref (G.2.1 25)), (1, .int l1), (2, .int 0)]) [1, 2, 0] rfl ?_
    exact X2_readOr_b12_ok C hd hH hrec0 hrec1 hrec2 FU h
def rd_K : Nat → Nat → Int32 → St → Option (Int32 × St)
  | 0, _, _, _ => none
  | n + 1, t, l1, σ => if t = 0 then X2_readOne (rd_K n) l1 σ else if t = 1 then X2_readOr (rd_K n) l1 σ else X2_readNot (rd_K n) l1 σ
theorem rd_K_ok : ∀ n : Nat, (∀  {l1 : Int32} {σ : St} {x : (Int32 × St)}, rd_K n 0 l1 σ = some x → Ct shX (11 + 6 * n) yX2_readOne cX2_readOne 3 (some FieldType.boolean) (fun G => [.ref (G.2.1 25), .int l1]) σ (fun G => some (.int x.1)) x.2) ∧ (∀  {l1 : Int32} {σ : St} {x : (Int32 × St)}, rd_K n 1 l1 σ = some x → Ct shX (11 + 6 * n) yX2_readOr cX2_readOr 3 (some FieldType.boolean) (fun G => [.ref (G.2.1 25), .int l1]) σ (fun G => some (.int x.1)) x.2) ∧ (∀  {l1 : Int32} {σ : St} {x : (Int32 × St)}, rd_K n 2 l1 σ = some x → Ct shX (11 + 6 * n) yX2_readNot cX2_readNot 3 (some FieldType.boolean) (fun G => [.ref (G.2.1 25), .int l1]) σ (fun G => some (.int x.1)) x.2) := by
  intro n
  induction n with
  | zero => refine ⟨fun h => (by cases h), fun h => (by cases h), fun h => (by cases h)⟩
  | succ n ih =>
    refine ⟨fun h => Ct.mono (show 11 + 6 * n + 1 ≤ 11 + 6 * (n + 1) by omega) (X2_readOne_ok (hr := 11 + 6 * n) (rec := rd_K n) (by omega) ih.1 ih.2.1 ih.2.2 (by simpa [rd_K] using h)), fun h => Ct.mono (show 11 + 6 * n + 6 ≤ 11 + 6 * (n + 1) by omega) (X2_readOr_ok (hr := 11 + 6 * n) (rec := rd_K n) (by omega) ih.1 ih.2.1 ih.2.2 (by simpa [rd_K] using h)), fun h => Ct.mono (show 11 + 6 * n + 4 ≤ 11 + 6 * (n + 1) by omega) (X2_readNot_ok (hr := 11 + 6 * n) (rec := rd_K n) (by omega) ih.1 ih.2.1 ih.2.2 (by simpa [rd_K] using h))⟩
theorem X2_readOne_okK {l1 : Int32} {σ : St} {x : (Int32 × St)} (h : X2_readOne (rd_K FR) l1 σ = some x) : Ct shX 60 yX2_readOne cX2_readOne 3 (some FieldType.boolean) (fun G => [.ref (G.2.1 25), .int l1]) σ (fun G => some (.int x.1)) x.2 := Ct.mono (show 11 + 6 * FR + 1 ≤ 60 by decide) (X2_readOne_ok (hr := 11 + 6 * FR) (by omega) (rd_K_ok FR).1 (rd_K_ok FR).2.1 (rd_K_ok FR).2.2 h)
theorem X2_readTerm_okK {l1 : Int32} {σ : St} {x : (Int32 × St)} (h : X2_readTerm (rd_K FR) l1 σ = some x) : Ct shX 61 yX2_readTerm cX2_readTerm 3 (some FieldType.boolean) (fun G => [.ref (G.2.1 25), .int l1]) σ (fun G => some (.int x.1)) x.2 := Ct.mono (show 11 + 6 * FR + 2 ≤ 61 by decide) (X2_readTerm_ok (hr := 11 + 6 * FR) (by omega) (rd_K_ok FR).1 (rd_K_ok FR).2.1 (rd_K_ok FR).2.2 h)
theorem X2_readSum_okK {l1 : Int32} {σ : St} {x : (Int32 × St)} (h : X2_readSum (rd_K FR) l1 σ = some x) : Ct shX 62 yX2_readSum cX2_readSum 4 (some FieldType.boolean) (fun G => [.ref (G.2.1 25), .int l1]) σ (fun G => some (.int x.1)) x.2 := Ct.mono (show 11 + 6 * FR + 3 ≤ 62 by decide) (X2_readSum_ok (hr := 11 + 6 * FR) (by omega) (rd_K_ok FR).1 (rd_K_ok FR).2.1 (rd_K_ok FR).2.2 h)
theorem X2_readNot_okK {l1 : Int32} {σ : St} {x : (Int32 × St)} (h : X2_readNot (rd_K FR) l1 σ = some x) : Ct shX 63 yX2_readNot cX2_readNot 3 (some FieldType.boolean) (fun G => [.ref (G.2.1 25), .int l1]) σ (fun G => some (.int x.1)) x.2 := Ct.mono (show 11 + 6 * FR + 4 ≤ 63 by decide) (X2_readNot_ok (hr := 11 + 6 * FR) (by omega) (rd_K_ok FR).1 (rd_K_ok FR).2.1 (rd_K_ok FR).2.2 h)
theorem X2_readAnd_okK {l1 : Int32} {σ : St} {x : (Int32 × St)} (h : X2_readAnd (rd_K FR) l1 σ = some x) : Ct shX 64 yX2_readAnd cX2_readAnd 3 (some FieldType.boolean) (fun G => [.ref (G.2.1 25), .int l1]) σ (fun G => some (.int x.1)) x.2 := Ct.mono (show 11 + 6 * FR + 5 ≤ 64 by decide) (X2_readAnd_ok (hr := 11 + 6 * FR) (by omega) (rd_K_ok FR).1 (rd_K_ok FR).2.1 (rd_K_ok FR).2.2 h)
theorem X2_readOr_okK {l1 : Int32} {σ : St} {x : (Int32 × St)} (h : X2_readOr (rd_K FR) l1 σ = some x) : Ct shX 65 yX2_readOr cX2_readOr 3 (some FieldType.boolean) (fun G => [.ref (G.2.1 25), .int l1]) σ (fun G => some (.int x.1)) x.2 := Ct.mono (show 11 + 6 * FR + 6 ≤ 65 by decide) (X2_readOr_ok (hr := 11 + 6 * FR) (by omega) (rd_K_ok FR).1 (rd_K_ok FR).2.1 (rd_K_ok FR).2.2 h)
def X2_readPart (l1 : Int32) (σ : St) : Option (Int32 × St) := (X8_beginPart l1 σ).bind (fun x5 => (X2_readToken l1 x5).bind (fun x10 => if x10.1 = 0 then (some (0, x10.2)) else ((X2_readOr (rd_K FR) 0 x10.2).bind (fun x18 => if x18.1 = 0 then (some (0, x18.2)) else ((X2_readToken (-21) x18.2).bind (fun x27 => if x27.1 = 0 then (some (0, x27.2)) else (some (1, x27.2))))))))
set_option maxRecDepth 100000 in
set_option maxHeartbeats 4000000 in
theorem X2_readPart_ok {l1 : Int32} {σ : St} {x : (Int32 × St)} (h : X2_readPart l1 σ = some x) : Ct shX (66) yX2_readPart cX2_readPart 2 (some FieldType.boolean) (fun G => [.ref (G.2.1 25), .int l1]) σ (fun G => some (.int x.1)) x.2 := by
  refine Ct.of mw_X2_readPart.1 (by decide +kernel) (fun G => Nat.le_of_ble_eq_true rfl) (fun G p l e d s m args below meth c A hd C => ?_)
  refine (?_ : Vw shX G p l e d s m args below meth c 2 A σ 0 [(0, .ref (G.2.1 25)), (1, .int l1)] [] (some (.int x.1)) x.2)
  unfold X2_readPart at h
  refine V_aload_n C 0 dX2_readPart_0 rfl rfl ?_
  refine fg2_15 (r := 13) C oX_25 rfl dX2_readPart_1 ?_
  refine V_iload_n C 1 dX2_readPart_4 rfl rfl ?_
  obtain ⟨x5, h5, h⟩ := Option.bind_eq_some_iff.mp h
  refine V_callVv (As := [.int l1]) C (X8_beginPart_ok h5) mw_X8_beginPart.1 mw_X8_beginPart.2.1 mw_X8_beginPart.2.2 q2_47 oX_13.1 oX_13.2.1 (by decide) rfl rfl (by omega) rfl rfl rfl (Nat.le_of_ble_eq_true rfl) dX2_readPart_5 ?_
  refine V_aload_n C 0 dX2_readPart_8 rfl rfl ?_
  refine V_iload_n C 1 dX2_readPart_9 rfl rfl ?_
  obtain ⟨x10, h10, h⟩ := Option.bind_eq_some_iff.mp h
  refine V_callVi (As := [.int l1]) C (X2_readToken_ok h10) mw_X2_readToken.1 mw_X2_readToken.2.1 mw_X2_readToken.2.2 q2_51 oX_25.1 oX_25.2.1 (by decide) rfl rfl (by omega) rfl rfl rfl (Nat.le_of_ble_eq_true rfl) dX2_readPart_10 ?_
  by_cases c1 : x10.1 = 0
  · rw [if_pos c1] at h
    refine V_if_eqT C 37 dX2_readPart_13 (by decide) c1 ?_
    refine V_iconst C (w := 0) dX2_readPart_37 (by decide) ?_
    obtain rfl := Option.some.inj h
    exact V_iret C rfl (nz (Or.inl rfl)) dX2_readPart_38
  · rw [if_neg c1] at h
    refine V_if_eqF C 37 dX2_readPart_13 (by decide) c1 ?_
    refine V_aload_n C 0 dX2_readPart_16 rfl rfl ?_
    refine V_iconst C (w := 0) dX2_readPart_17 (by decide) ?_
    obtain ⟨x18, h18, h⟩ := Option.bind_eq_some_iff.mp h
    refine V_callVi (As := [.int 0]) C (X2_readOr_okK h18) mw_X2_readOr.1 mw_X2_readOr.2.1 mw_X2_readOr.2.2 q2_54 oX_25.1 oX_25.2.1 (by decide) rfl rfl (by omega) rfl rfl rfl (Nat.le_of_ble_eq_true rfl) dX2_readPart_18 ?_
    by_cases c2 : x18.1 = 0
    · rw [if_pos c2] at h
      refine V_if_eqT C 37 dX2_readPart_21 (by decide) c2 ?_
      refine V_iconst C (w := 0) dX2_readPart_37 (by decide) ?_
      obtain rfl := Option.some.inj h
      exact V_iret C rfl (nz (Or.inl rfl)) dX2_readPart_38
    · rw [if_neg c2] at h
      refine V_if_eqF C 37 dX2_readPart_21 (by decide) c2 ?_
      refine V_aload_n C 0 dX2_readPart_24 rfl rfl ?_
      refine V_bipush C (w := (-21)) dX2_readPart_25 (by decide) ?_
      obtain ⟨x27, h27, h⟩ := Option.bind_eq_some_iff.mp h
      refine V_callVi (As := [.int (-21)]) C (X2_readToken_ok h27) mw_X2_readToken.1 mw_X2_readToken.2.1 mw_X2_readToken.2.2 q2_51 oX_25.1 oX_25.2.1 (by decide) rfl rfl (by omega) rfl rfl rfl (Nat.le_of_ble_eq_true rfl) dX2_readPart_27 ?_
      by_cases c3 : x27.1 = 0
      · rw [if_pos c3] at h
        refine V_if_eqT C 37 dX2_readPart_30 (by decide) c3 ?_
        refine V_iconst C (w := 0) dX2_readPart_37 (by decide) ?_
        obtain rfl := Option.some.inj h
        exact V_iret C rfl (nz (Or.inl rfl)) dX2_readPart_38
      · rw [if_neg c3] at h
        refine V_if_eqF C 37 dX2_readPart_30 (by decide) c3 ?_
        refine V_iconst C (w := 1) dX2_readPart_33 (by decide) ?_
        refine V_goto C 38 dX2_readPart_34 (by decide) ?_
        obtain rfl := Option.some.inj h
        exact V_iret C rfl (nz (Or.inr rfl)) dX2_readPart_38
def X7_clear (σ : St) : Option St := some (up σ 11 1 0)
set_option maxRecDepth 100000 in
set_option maxHeartbeats 4000000 in
theorem X7_clear_ok {σ : St} {x : St} (h : X7_clear σ = some x) : Ct shX (1) yX7_clear cX7_clear 1 none (fun G => [.ref (G.2.1 11)]) σ (fun G => none) x := by
  refine Ct.of mw_X7_clear.1 (by decide +kernel) (fun G => Nat.le_of_ble_eq_true rfl) (fun G p l e d s m args below meth c A hd C => ?_)
  refine (?_ : Vw shX G p l e d s m args below meth c 1 A σ 0 [(0, .ref (G.2.1 11))] [] (none) x)
  unfold X7_clear at h
  refine V_aload_n C 0 dX7_clear_0 rfl rfl ?_
  refine V_iconst C (w := 0) dX7_clear_1 (by decide) ?_
  refine fp7_15 C oX_11 dX7_clear_2 ?_
  obtain rfl := Option.some.inj h
  exact V_vret C rfl dX7_clear_5
def X8_keepDraft (σ : St) : Option (Int32 × St) := (X8_isFull σ).bind (fun x1 => if x1 = 0 then (some ((σ.1 13 5), (up σ 13 5 ((σ.1 13 5) + 1)))) else (some ((-4), σ)))
set_option maxRecDepth 100000 in
set_option maxHeartbeats 4000000 in
theorem X8_keepDraft_ok {σ : St} {x : (Int32 × St)} (h : X8_keepDraft σ = some x) : Ct shX (2) yX8_keepDraft cX8_keepDraft 1 (some FieldType.int) (fun G => [.ref (G.2.1 13)]) σ (fun G => some (.int x.1)) x.2 := by
  refine Ct.of mw_X8_keepDraft.1 (by decide +kernel) (fun G => Nat.le_of_ble_eq_true rfl) (fun G p l e d s m args below meth c A hd C => ?_)
  refine (?_ : Vw shX G p l e d s m args below meth c 1 A σ 0 [(0, .ref (G.2.1 13))] [] (some (.int x.1)) x.2)
  unfold X8_keepDraft at h
  refine V_aload_n C 0 dX8_keepDraft_0 rfl rfl ?_
  obtain ⟨x1, h1, h⟩ := Option.bind_eq_some_iff.mp h
  refine V_callVi (As := []) C (X8_isFull_ok h1) mw_X8_isFull.1 mw_X8_isFull.2.1 mw_X8_isFull.2.2 q8_33 oX_13.1 oX_13.2.1 (by decide) rfl rfl (by omega) rfl rfl rfl (Nat.le_of_ble_eq_true rfl) dX8_keepDraft_1 ?_
  by_cases c1 : x1 = 0
  · rw [if_pos c1] at h
    refine V_if_eqT C 12 dX8_keepDraft_4 (by decide) c1 ?_
    refine V_aload_n C 0 dX8_keepDraft_12 rfl rfl ?_
    refine V_dup C dX8_keepDraft_13 rfl ?_
    refine fg8_29 C oX_13 dX8_keepDraft_14 ?_
    refine V_dup_x1 C dX8_keepDraft_17 rfl rfl ?_
    refine V_iconst C (w := 1) dX8_keepDraft_18 (by decide) ?_
    refine V_iadd C dX8_keepDraft_19 ?_
    refine fp8_29 C oX_13 dX8_keepDraft_20 ?_
    obtain rfl := Option.some.inj h
    exact V_iret C rfl rfl dX8_keepDraft_23
  · rw [if_neg c1] at h
    refine V_if_eqF C 12 dX8_keepDraft_4 (by decide) c1 ?_
    refine V_bipush C (w := (-4)) dX8_keepDraft_7 (by decide) ?_
    refine V_goto C 23 dX8_keepDraft_9 (by decide) ?_
    obtain rfl := Option.some.inj h
    exact V_iret C rfl rfl dX8_keepDraft_23
def X2_read_b58 (s0 : Int32) (σ : St) : Option (Int32 × St) := (X7_clear σ).bind (fun x63 => if s0 = 0 then (some (((-100) - (x63.1 11 3)), x63)) else ((X8_keepDraft x63).bind (fun x74 => some (x74.1, x74.2))))
set_option maxRecDepth 100000 in
set_option maxHeartbeats 4000000 in
theorem X2_read_b58_ok {G : Gx} {p : Program} {l : Launch} {e : Env} {d : Nat} {s : State} {m : MethodId} {args : Array Value} {below : List Frame} {meth : Method} {c : Code} {A : Nat → Prop} (C : OK shX G p s m args meth c RX2 cX2_read 2 (some FieldType.int) A) (hd : 67 ≤ d) {s0 : Int32} {σ : St} {x : (Int32 × St)} (h : X2_read_b58 s0 σ = some x) : Vw shX G p l e d s m args below meth c 2 A σ 58 [(0, .ref (G.2.1 25))] [.int s0] (some (.int x.1)) x.2 := by
  unfold X2_read_b58 at h
  refine V_istore_n C (lv' := [(1, .int s0), (0, .ref (G.2.1 25))]) dX2_read_58 rfl (by decide) rfl ?_
  refine V_aload_n C 1 dX2_read_59 rfl rfl ?_
  refine fg2_9 (r := 11) C oX_25 rfl dX2_read_60 ?_
  obtain ⟨x63, h63, h⟩ := Option.bind_eq_some_iff.mp h
  refine V_callVv (As := []) C (X7_clear_ok h63) mw_X7_clear.1 mw_X7_clear.2.1 mw_X7_clear.2.2 q2_37 oX_11.1 oX_11.2.1 (by decide) rfl rfl (by omega) rfl rfl rfl (Nat.le_of_ble_eq_true rfl) dX2_read_63 ?_
  refine V_iload_n C 0 dX2_read_66 rfl rfl ?_
  by_cases c1 : s0 = 0
  · rw [if_pos c1] at h
    refine V_if_eqT C 80 dX2_read_67 (by decide) c1 ?_
    refine V_bipush C (w := (-100)) dX2_read_80 (by decide) ?_
    refine V_aload_n C 1 dX2_read_82 rfl rfl ?_
    refine fg2_9 (r := 11) C oX_25 rfl dX2_read_83 ?_
    refine fg2_44 C oX_11 dX2_read_86 ?_
    refine V_isub C dX2_read_89 ?_
    obtain rfl := Option.some.inj h
    exact V_iret C rfl rfl dX2_read_90
  · rw [if_neg c1] at h
    refine V_if_eqF C 80 dX2_read_67 (by decide) c1 ?_
    refine V_aload_n C 1 dX2_read_70 rfl rfl ?_
    refine fg2_15 (r := 13) C oX_25 rfl dX2_read_71 ?_
    obtain ⟨x74, h74, h⟩ := Option.bind_eq_some_iff.mp h
    refine V_callVi (As := []) C (X8_keepDraft_ok h74) mw_X8_keepDraft.1 mw_X8_keepDraft.2.1 mw_X8_keepDraft.2.2 q2_40 oX_13.1 oX_13.2.1 (by decide) rfl rfl (by omega) rfl rfl rfl (Nat.le_of_ble_eq_true rfl) dX2_read_74 ?_
    refine V_goto C 90 dX2_read_77 (by decide) ?_
    obtain rfl := Option.some.inj h
    exact V_iret C rfl rfl dX2_read_90
def X2_read (σ : St) : Option (Int32 × St) := (X8_beginDraft σ).bind (fun x4 => (X7_rewind x4).bind (fun x11 => (X2_readPart (-16) x11).bind (fun x17 => if x17.1 = 0 then (X2_read_b58 0 x17.2) else ((X2_readPart (-17) x17.2).bind (fun x26 => if x26.1 = 0 then (X2_read_b58 0 x26.2) else ((X2_readPart (-18) x26.2).bind (fun x35 => if x35.1 = 0 then (X2_read_b58 0 x35.2) else (if (x35.2.1 11 2) = (-22) then (X2_read_b58 1 x35.2) else (X2_read_b58 0 x35.2)))))))))
set_option maxRecDepth 100000 in
set_option maxHeartbeats 4000000 in
theorem X2_read_ok {σ : St} {x : (Int32 × St)} (h : X2_read σ = some x) : Ct shX (67) yX2_read cX2_read 2 (some FieldType.int) (fun G => [.ref (G.2.1 25)]) σ (fun G => some (.int x.1)) x.2 := by
  refine Ct.of mw_X2_read.1 (by decide +kernel) (fun G => Nat.le_of_ble_eq_true rfl) (fun G p l e d s m args below meth c A hd C => ?_)
  refine (?_ : Vw shX G p l e d s m args below meth c 2 A σ 0 [(0, .ref (G.2.1 25))] [] (some (.int x.1)) x.2)
  unfold X2_read at h
  refine V_aload_n C 0 dX2_read_0 rfl rfl ?_
  refine fg2_15 (r := 13) C oX_25 rfl dX2_read_1 ?_
  obtain ⟨x4, h4, h⟩ := Option.bind_eq_some_iff.mp h
  refine V_callVv (As := []) C (X8_beginDraft_ok h4) mw_X8_beginDraft.1 mw_X8_beginDraft.2.1 mw_X8_beginDraft.2.2 q2_19 oX_13.1 oX_13.2.1 (by decide) rfl rfl (by omega) rfl rfl rfl (Nat.le_of_ble_eq_true rfl) dX2_read_4 ?_
  refine V_aload_n C 0 dX2_read_7 rfl rfl ?_
  refine fg2_9 (r := 11) C oX_25 rfl dX2_read_8 ?_
  obtain ⟨x11, h11, h⟩ := Option.bind_eq_some_iff.mp h
  refine V_callVv (As := []) C (X7_rewind_ok h11) mw_X7_rewind.1 mw_X7_rewind.2.1 mw_X7_rewind.2.2 q2_24 oX_11.1 oX_11.2.1 (by decide) rfl rfl (by omega) rfl rfl rfl (Nat.le_of_ble_eq_true rfl) dX2_read_11 ?_
  refine V_aload_n C 0 dX2_read_14 rfl rfl ?_
  refine V_bipush C (w := (-16)) dX2_read_15 (by decide) ?_
  obtain ⟨x17, h17, h⟩ := Option.bind_eq_some_iff.mp h
  refine V_callVi (As := [.int (-16)]) C (X2_readPart_ok h17) mw_X2_readPart.1 mw_X2_readPart.2.1 mw_X2_readPart.2.2 q2_29 oX_25.1 oX_25.2.1 (by decide) rfl rfl (by omega) rfl rfl rfl (Nat.le_of_ble_eq_true rfl) dX2_read_17 ?_
  by_cases c2 : x17.1 = 0
  · rw [if_pos c2] at h
    refine V_if_eqT C 57 dX2_read_20 (by decide) c2 ?_
    refine V_iconst C (w := 0) dX2_read_57 (by decide) ?_
    exact X2_read_b58_ok C hd h
  · rw [if_neg c2] at h
    refine V_if_eqF C 57 dX2_read_20 (by decide) c2 ?_
    refine V_aload_n C 0 dX2_read_23 rfl rfl ?_
    refine V_bipush C (w := (-17)) dX2_read_24 (by decide) ?_
    obtain ⟨x26, h26, h⟩ := Option.bind_eq_some_iff.mp h
    refine V_callVi (As := [.int (-17)]) C (X2_readPart_ok h26) mw_X2_readPart.1 mw_X2_readPart.2.1 mw_X2_readPart.2.2 q2_29 oX_25.1 oX_25.2.1 (by decide) rfl rfl (by omega) rfl rfl rfl (Nat.le_of_ble_eq_true rfl) dX2_read_26 ?_
    by_cases c3 : x26.1 = 0
    · rw [if_pos c3] at h
      refine V_if_eqT C 57 dX2_read_29 (by decide) c3 ?_
      refine V_iconst C (w := 0) dX2_read_57 (by decide) ?_
      exact X2_read_b58_ok C hd h
    · rw [if_neg c3] at h
      refine V_if_eqF C 57 dX2_read_29 (by decide) c3 ?_
      refine V_aload_n C 0 dX2_read_32 rfl rfl ?_
      refine V_bipush C (w := (-18)) dX2_read_33 (by decide) ?_
      obtain ⟨x35, h35, h⟩ := Option.bind_eq_some_iff.mp h
      refine V_callVi (As := [.int (-18)]) C (X2_readPart_ok h35) mw_X2_readPart.1 mw_X2_readPart.2.1 mw_X2_readPart.2.2 q2_29 oX_25.1 oX_25.2.1 (by decide) rfl rfl (by omega) rfl rfl rfl (Nat.le_of_ble_eq_true rfl) dX2_read_35 ?_
      by_cases c4 : x35.1 = 0
      · rw [if_pos c4] at h
        refine V_if_eqT C 57 dX2_read_38 (by decide) c4 ?_
        refine V_iconst C (w := 0) dX2_read_57 (by decide) ?_
        exact X2_read_b58_ok C hd h
      · rw [if_neg c4] at h
        refine V_if_eqF C 57 dX2_read_38 (by decide) c4 ?_
        refine V_aload_n C 0 dX2_read_41 rfl rfl ?_
        refine fg2_9 (r := 11) C oX_25 rfl dX2_read_42 ?_
        refine fg2_33 C oX_11 dX2_read_45 ?_
        refine V_bipush C (w := (-22)) dX2_read_48 (by decide) ?_
        by_cases c5 : (x35.2.1 11 2) = (-22)
        · rw [if_pos c5] at h
          refine V_icmp_neF C 57 dX2_read_50 (by decide) c5 ?_
          refine V_iconst C (w := 1) dX2_read_53 (by decide) ?_
          refine V_goto C 58 dX2_read_54 (by decide) ?_
          exact X2_read_b58_ok C hd h
        · rw [if_neg c5] at h
          refine V_icmp_neT C 57 dX2_read_50 (by decide) c5 ?_
          refine V_iconst C (w := 0) dX2_read_57 (by decide) ?_
          exact X2_read_b58_ok C hd h
def X3_noteWay_b46 : Nat → Int32 → St → Option St
  | 0, _, _ => none
  | F + 1, l1, σ => if (σ.1 1 5) ≤ l1 then (some σ) else (if 5 ≤ l1 then (some σ) else ((X1_guestAt l1 σ).bind (fun x71 => if (σ.1 35 4) = 1 then (if ob l1 5 then none else (X3_noteWay_b46 F (l1 + 1) (up σ 36 (l1).toNatClampNeg x71))) else (if ob l1 5 then none else (if (σ.1 36 (l1).toNatClampNeg) = x71 then (X3_noteWay_b46 F (l1 + 1) σ) else (X3_noteWay_b46 F (l1 + 1) (up σ 35 6 ((σ.1 35 6) &&& ((1 <<< (x71 &&& 31)) ^^^ (-1))))))))))
set_option maxRecDepth 100000 in
set_option maxHeartbeats 4000000 in
theorem X3_noteWay_b46_ok {G : Gx} {p : Program} {l : Launch} {e : Env} {d : Nat} {s : State} {m : MethodId} {args : Array Value} {below : List Frame} {meth : Method} {c : Code} {A : Nat → Prop} (C : OK shX G p s m args meth c RX3 cX3_noteWay 3 none A) (hd : 2 ≤ d) : ∀ (F : Nat) {l1 : Int32} {σ : St} {x : St} (h : X3_noteWay_b46 F l1 σ = some x), Vw shX G p l e d s m args below meth c 3 A σ 46 [(0, .ref (G.2.1 35)), (1, .int l1)] [] (none) x := by
  intro F
  induction F with
  | zero =>
    intro l1 σ x h
    rw [X3_noteWay_b46] at h
    cases h
  | succ F ih =>
    intro l1 σ x h
    rw [X3_noteWay_b46] at h
    refine V_iload_n C 1 dX3_noteWay_46 rfl rfl ?_
    refine V_aload_n C 0 dX3_noteWay_47 rfl rfl ?_
    refine fg3_28 (r := 1) C oX_35 rfl dX3_noteWay_48 ?_
    refine fg3_45 C oX_1 dX3_noteWay_51 ?_
    by_cases c1 : (σ.1 1 5) ≤ l1
    · rw [if_pos c1] at h
      refine V_icmp_geT C 123 dX3_noteWay_54 (by decide) c1 ?_
      obtain rfl := Option.some.inj h
      exact V_vret C rfl dX3_noteWay_123
    · rw [if_neg c1] at h
      refine V_icmp_geF C 123 dX3_noteWay_54 (by decide) c1 ?_
      refine V_iload_n C 1 dX3_noteWay_57 rfl rfl ?_
      refine V_aload_n C 0 dX3_noteWay_58 rfl rfl ?_
      refine fg3_9 (r := 36) C oX_35 rfl dX3_noteWay_59 ?_
      refine V_alenI C oX_36.1 oX_36.2.1 (w := 5) rfl dX3_noteWay_62 ?_
      by_cases c2 : 5 ≤ l1
      · rw [if_pos c2] at h
        refine V_icmp_geT C 123 dX3_noteWay_63 (by decide) c2 ?_
        obtain rfl := Option.some.inj h
        exact V_vret C rfl dX3_noteWay_123
      · rw [if_neg c2] at h
        refine V_icmp_geF C 123 dX3_noteWay_63 (by decide) c2 ?_
        refine V_aload_n C 0 dX3_noteWay_66 rfl rfl ?_
        refine fg3_32 (r := 27) C oX_35 rfl dX3_noteWay_67 ?_
        refine V_iload_n C 1 dX3_noteWay_70 rfl rfl ?_
        obtain ⟨x71, h71, h⟩ := Option.bind_eq_some_iff.mp h
        refine V_callVi (As := [.int l1]) C (X1_guestAt_ok h71) mw_X1_guestAt.1 mw_X1_guestAt.2.1 mw_X1_guestAt.2.2 q3_73 oX_27.1 oX_27.2.1 (by decide) rfl rfl (by omega) rfl rfl rfl (Nat.le_of_ble_eq_true rfl) dX3_noteWay_71 ?_
        refine V_istore_n C (lv' := [(2, .int x71), (0, .ref (G.2.1 35)), (1, .int l1)]) dX3_noteWay_74 rfl (by decide) rfl ?_
        refine V_aload_n C 1 dX3_noteWay_75 rfl rfl ?_
        refine fg3_18 C oX_35 dX3_noteWay_76 ?_
        refine V_iconst C (w := 1) dX3_noteWay_79 (by decide) ?_
        by_cases c3 : (σ.1 35 4) = 1
        · rw [if_pos c3] at h
          refine V_icmp_neF C 93 dX3_noteWay_80 (by decide) c3 ?_
          refine V_aload_n C 1 dX3_noteWay_83 rfl rfl ?_
          refine fg3_9 (r := 36) C oX_35 rfl dX3_noteWay_84 ?_
          refine V_iload_n C 2 dX3_noteWay_87 rfl rfl ?_
          refine V_iload_n C 0 dX3_noteWay_88 rfl rfl ?_
          have g6 : ¬ (ob l1 5) := fun g9 => by rw [if_pos g9] at h; cases h
          rw [if_neg g6] at h
          refine V_iastO C oX_36 g6 dX3_noteWay_89 ?_
          refine V_goto C 117 dX3_noteWay_90 (by decide) ?_
          refine V_iinc C (w := (l1 + 1)) (lv' := [(1, .int (l1 + 1)), (2, .int x71), (0, .ref (G.2.1 35))]) 2 dX3_noteWay_117 rfl (congrArg (l1 + ·) (show Int32.ofInt 1 = 1 by decide)) (by decide) rfl ?_
          refine V_goto C 46 dX3_noteWay_120 (by decide) ?_
          refine V_sub (lv' := [(0, .ref (G.2.1 35)), (1, .int (l1 + 1))]) [2, 0] rfl ?_
          exact ih h
        · rw [if_neg c3] at h
          refine V_icmp_neT C 93 dX3_noteWay_80 (by decide) c3 ?_
          refine V_aload_n C 1 dX3_noteWay_93 rfl rfl ?_
          refine fg3_9 (r := 36) C oX_35 rfl dX3_noteWay_94 ?_
          refine V_iload_n C 2 dX3_noteWay_97 rfl rfl ?_
          have g4 : ¬ (ob l1 5) := fun g9 => by rw [if_pos g9] at h; cases h
          rw [if_neg g4] at h
          refine V_ialdO C oX_36 g4 dX3_noteWay_98 ?_
          refine V_iload_n C 0 dX3_noteWay_99 rfl rfl ?_
          by_cases c5 : (σ.1 36 (l1).toNatClampNeg) = x71
          · rw [if_pos c5] at h
            refine V_icmp_eqT C 117 dX3_noteWay_100 (by decide) c5 ?_
            refine V_iinc C (w := (l1 + 1)) (lv' := [(1, .int (l1 + 1)), (2, .int x71), (0, .ref (G.2.1 35))]) 2 dX3_noteWay_117 rfl (congrArg (l1 + ·) (show Int32.ofInt 1 = 1 by decide)) (by decide) rfl ?_
            refine V_goto C 46 dX3_noteWay_120 (by decide) ?_
            refine V_sub (lv' := [(0, .ref (G.2.1 35)), (1, .int (l1 + 1))]) [2, 0] rfl ?_
            exact ih h
          · rw [if_neg c5] at h
            refine V_icmp_eqF C 117 dX3_noteWay_100 (by decide) c5 ?_
            refine V_aload_n C 1 dX3_noteWay_103 rfl rfl ?_
            refine V_dup C dX3_noteWay_104 rfl ?_
            refine fg3_25 C oX_35 dX3_noteWay_105 ?_
            refine V_iconst C (w := 1) dX3_noteWay_108 (by decide) ?_
            refine V_iload_n C 0 dX3_noteWay_109 rfl rfl ?_
            refine V_ishl C dX3_noteWay_110 ?_
            refine V_iconst C (w := (-1)) dX3_noteWay_111 (by decide) ?_
            refine V_ixor C dX3_noteWay_112 ?_
            refine V_iand C dX3_noteWay_113 ?_
            refine fp3_25 C oX_35 dX3_noteWay_114 ?_
            refine V_iinc C (w := (l1 + 1)) (lv' := [(1, .int (l1 + 1)), (2, .int x71), (0, .ref (G.2.1 35))]) 2 dX3_noteWay_117 rfl (congrArg (l1 + ·) (show Int32.ofInt 1 = 1 by decide)) (by decide) rfl ?_
            refine V_goto C 46 dX3_noteWay_120 (by decide) ?_
            refine V_sub (lv' := [(0, .ref (G.2.1 35)), (1, .int (l1 + 1))]) [2, 0] rfl ?_
            exact ih h
def X3_noteWay_b44 (σ : St) : Option St := X3_noteWay_b46 FU 0 σ
set_option maxRecDepth 100000 in
set_option maxHeartbeats 4000000 in
theorem X3_noteWay_b44_ok {G : Gx} {p : Program} {l : Launch} {e : Env} {d : Nat} {s : State} {m : MethodId} {args : Array Value} {below : List Frame} {meth : Method} {c : Code} {A : Nat → Prop} (C : OK shX G p s m args meth c RX3 cX3_noteWay 3 none A) (hd : 2 ≤ d) {σ : St} {x : St} (h : X3_noteWay_b44 σ = some x) : Vw shX G p l e d s m args below meth c 3 A σ 44 [(0, .ref (G.2.1 35))] [] (none) x := by
  unfold X3_noteWay_b44 at h
  refine V_iconst C (w := 0) dX3_noteWay_44 (by decide) ?_
  refine V_istore_n C (lv' := [(1, .int 0), (0, .ref (G.2.1 35))]) dX3_noteWay_45 rfl (by decide) rfl ?_
  refine V_sub (lv' := [(0, .ref (G.2.1 35)), (1, .int 0)]) [1, 0] rfl ?_
  exact X3_noteWay_b46_ok C hd FU h
def X3_noteWay (σ : St) : Option St := if ((up σ 35 4 ((σ.1 35 4) + 1)).1 35 4) = 1 then ((X1_digits (up σ 35 4 ((σ.1 35 4) + 1))).bind (fun x23 => X3_noteWay_b44 (up (up (up σ 35 4 ((σ.1 35 4) + 1)) 35 5 x23) 35 6 ((1 <<< (((up (up σ 35 4 ((σ.1 35 4) + 1)) 35 5 x23).1 1 5) &&& 31)) - 1)))) else (X3_noteWay_b44 (up σ 35 4 ((σ.1 35 4) + 1)))
set_option maxRecDepth 100000 in
set_option maxHeartbeats 4000000 in
theorem X3_noteWay_ok {σ : St} {x : St} (h : X3_noteWay σ = some x) : Ct shX (2) yX3_noteWay cX3_noteWay 3 none (fun G => [.ref (G.2.1 35)]) σ (fun G => none) x := by
  refine Ct.of mw_X3_noteWay.1 (by decide +kernel) (fun G => Nat.le_of_ble_eq_true rfl) (fun G p l e d s m args below meth c A hd C => ?_)
  refine (?_ : Vw shX G p l e d s m args below meth c 3 A σ 0 [(0, .ref (G.2.1 35))] [] (none) x)
  unfold X3_noteWay at h
  refine V_aload_n C 0 dX3_noteWay_0 rfl rfl ?_
  refine V_dup C dX3_noteWay_1 rfl ?_
  refine fg3_18 C oX_35 dX3_noteWay_2 ?_
  refine V_iconst C (w := 1) dX3_noteWay_5 (by decide) ?_
  refine V_iadd C dX3_noteWay_6 ?_
  refine fp3_18 C oX_35 dX3_noteWay_7 ?_
  refine V_aload_n C 0 dX3_noteWay_10 rfl rfl ?_
  refine fg3_18 C oX_35 dX3_noteWay_11 ?_
  refine V_iconst C (w := 1) dX3_noteWay_14 (by decide) ?_
  by_cases c7 : ((up σ 35 4 ((σ.1 35 4) + 1)).1 35 4) = 1
  · rw [if_pos c7] at h
    refine V_icmp_neF C 44 dX3_noteWay_15 (by decide) c7 ?_
    refine V_aload_n C 0 dX3_noteWay_18 rfl rfl ?_
    refine V_aload_n C 0 dX3_noteWay_19 rfl rfl ?_
    refine fg3_32 (r := 27) C oX_35 rfl dX3_noteWay_20 ?_
    obtain ⟨x23, h23, h⟩ := Option.bind_eq_some_iff.mp h
    refine V_callVi (As := []) C (X1_digits_ok h23) mw_X1_digits.1 mw_X1_digits.2.1 mw_X1_digits.2.2 q3_70 oX_27.1 oX_27.2.1 (by decide) rfl rfl (by omega) rfl rfl rfl (Nat.le_of_ble_eq_true rfl) dX3_noteWay_23 ?_
    refine fp3_22 C oX_35 dX3_noteWay_26 ?_
    refine V_aload_n C 0 dX3_noteWay_29 rfl rfl ?_
    refine V_iconst C (w := 1) dX3_noteWay_30 (by decide) ?_
    refine V_aload_n C 0 dX3_noteWay_31 rfl rfl ?_
    refine fg3_28 (r := 1) C oX_35 rfl dX3_noteWay_32 ?_
    refine fg3_45 C oX_1 dX3_noteWay_35 ?_
    refine V_ishl C dX3_noteWay_38 ?_
    refine V_iconst C (w := 1) dX3_noteWay_39 (by decide) ?_
    refine V_isub C dX3_noteWay_40 ?_
    refine fp3_25 C oX_35 dX3_noteWay_41 ?_
    exact X3_noteWay_b44_ok C hd h
  · rw [if_neg c7] at h
    refine V_icmp_neT C 44 dX3_noteWay_15 (by decide) c7 ?_
    exact X3_noteWay_b44_ok C hd h
def X3_seekWaysBehind_b66 (rec : Int32 → Nat → St → Option St) (K18 : Int32 → Nat → Int32 → St → Option St) (l1 : Int32) (l2 : Nat) (l3 : Int32) (σ : St) : Option St := (X1_goBack σ).bind (fun x70 => K18 l1 l2 (l3 + 1) x70)
set_option maxRecDepth 100000 in
set_option maxHeartbeats 4000000 in
theorem X3_seekWaysBehind_b66_ok {G : Gx} {p : Program} {l : Launch} {e : Env} {d : Nat} {s : State} {m : MethodId} {args : Array Value} {below : List Frame} {meth : Method} {c : Code} {A : Nat → Prop} {hr : Nat} {rec : Int32 → Nat → St → Option St} {K18 : Int32 → Nat → Int32 → St → Option St} (C : OK shX G p s m args meth c RX3 cX3_seekWaysBehind 4 none A) (hd : hr + 1 ≤ d) (hH : 5 ≤ hr) (hrec0 : ∀  {l1 : Int32} {l2 : Nat} {σ : St} {x : St}, rec l1 l2 σ = some x → Ct shX hr yX3_seekWaysBehind cX3_seekWaysBehind 4 none (fun G => [.ref (G.2.1 35), .int l1, .ref (G.2.1 l2)]) σ (fun G => none) x) (hK18 : ∀  {l1 : Int32} {l2 : Nat} {l3 : Int32} {σ : St} {x : St}, K18 l1 l2 l3 σ = some x → Vw shX G p l e d s m args below meth c 4 A σ 18 [(0, .ref (G.2.1 35)), (1, .int l1), (2, .ref (G.2.1 l2)), (3, .int l3)] [] (none) x) {l1 : Int32} {l2 : Nat} {l3 : Int32} {σ : St} {x : St} (h : X3_seekWaysBehind_b66 rec K18 l1 l2 l3 σ = some x) : Vw shX G p l e d s m args below meth c 4 A σ 66 [(0, .ref (G.2.1 35)), (1, .int l1), (2, .ref (G.2.1 l2)), (3, .int l3)] [] (none) x := by
  unfold X3_seekWaysBehind_b66 at h
  refine V_aload_n C 0 dX3_seekWaysBehind_66 rfl rfl ?_
  refine fg3_32 (r := 27) C oX_35 rfl dX3_seekWaysBehind_67 ?_
  obtain ⟨x70, h70, h⟩ := Option.bind_eq_some_iff.mp h
  refine V_callVv (As := []) C (X1_goBack_ok h70) mw_X1_goBack.1 mw_X1_goBack.2.1 mw_X1_goBack.2.2 q3_67 oX_27.1 oX_27.2.1 (by decide) rfl rfl (by omega) rfl rfl rfl (Nat.le_of_ble_eq_true rfl) dX3_seekWaysBehind_70 ?_
  refine V_iinc C (w := (l3 + 1)) (lv' := [(3, .int (l3 + 1)), (0, .ref (G.2.1 35)), (1, .int l1), (2, .ref (G.2.1 l2))]) 3 dX3_seekWaysBehind_73 rfl (congrArg (l3 + ·) (show Int32.ofInt 1 = 1 by decide)) (by decide) rfl ?_
  refine V_goto C 18 dX3_seekWaysBehind_76 (by decide) ?_
  refine V_sub (lv' := [(0, .ref (G.2.1 35)), (1, .int l1), (2, .ref (G.2.1 l2)), (3, .int (l3 + 1))]) [1, 2, 3, 0] rfl ?_
  exact hK18 h
def X3_seekWaysBehind_b18 (rec : Int32 → Nat → St → Option St) : Nat → Int32 → Nat → Int32 → St → Option St
  | 0, _, _, _, _ => none
  | F + 1, l1, l2, l3, σ => if (σ.1 1 5) ≤ l3 then (some σ) else ((X1_comeUp l3 σ).bind (fun x34 => if x34.1 = 0 then (X3_seekWaysBehind_b18 rec F l1 l2 (l3 + 1) x34.2) else ((X1_warmthNow x34.2).bind (fun x47 => if isO shX l2 6 3 then ((X6_item l2 l1 x34.2).bind (fun x52 => if x47 = x52 then ((rec (l1 + 1) l2 x34.2).bind (fun x63 => X3_seekWaysBehind_b66 rec (X3_seekWaysBehind_b18 rec F) l1 l2 l3 x63)) else (X3_seekWaysBehind_b66 rec (X3_seekWaysBehind_b18 rec F) l1 l2 l3 x34.2))) else none))))
set_option maxRecDepth 100000 in
set_option maxHeartbeats 4000000 in
theorem X3_seekWaysBehind_b18_ok {G : Gx} {p : Program} {l : Launch} {e : Env} {d : Nat} {s : State} {m : MethodId} {args : Array Value} {below : List Frame} {meth : Method} {c : Code} {A : Nat → Prop} {hr : Nat} {rec : Int32 → Nat → St → Option St} (C : OK shX G p s m args meth c RX3 cX3_seekWaysBehind 4 none A) (hd : hr + 1 ≤ d) (hH : 5 ≤ hr) (hrec0 : ∀  {l1 : Int32} {l2 : Nat} {σ : St} {x : St}, rec l1 l2 σ = some x → Ct shX hr yX3_seekWaysBehind cX3_seekWaysBehind 4 none (fun G => [.ref (G.2.1 35), .int l1, .ref (G.2.1 l2)]) σ (fun G => none) x) : ∀ (F : Nat) {l1 : Int32} {l2 : Nat} {l3 : Int32} {σ : St} {x : St} (h : X3_seekWaysBehind_b18 rec F l1 l2 l3 σ = some x), Vw shX G p l e d s m args below meth c 4 A σ 18 [(0, .ref (G.2.1 35)), (1, .int l1), (2, .ref (G.2.1 l2)), (3, .int l3)] [] (none) x := by
  intro F
  induction F with
  | zero =>
    intro l1 l2 l3 σ x h
    rw [X3_seekWaysBehind_b18] at h
    cases h
  | succ F ih =>
    intro l1 l2 l3 σ x h
    rw [X3_seekWaysBehind_b18] at h
    refine V_iload_n C 3 dX3_seekWaysBehind_18 rfl rfl ?_
    refine V_aload_n C 0 dX3_seekWaysBehind_19 rfl rfl ?_
    refine fg3_28 (r := 1) C oX_35 rfl dX3_seekWaysBehind_20 ?_
    refine fg3_45 C oX_1 dX3_seekWaysBehind_23 ?_
    by_cases c1 : (σ.1 1 5) ≤ l3
    · rw [if_pos c1] at h
      refine V_icmp_geT C 79 dX3_seekWaysBehind_26 (by decide) c1 ?_
      obtain rfl := Option.some.inj h
      exact V_vret C rfl dX3_seekWaysBehind_79
    · rw [if_neg c1] at h
      refine V_icmp_geF C 79 dX3_seekWaysBehind_26 (by decide) c1 ?_
      refine V_aload_n C 0 dX3_seekWaysBehind_29 rfl rfl ?_
      refine fg3_32 (r := 27) C oX_35 rfl dX3_seekWaysBehind_30 ?_
      refine V_iload_n C 3 dX3_seekWaysBehind_33 rfl rfl ?_
      obtain ⟨x34, h34, h⟩ := Option.bind_eq_some_iff.mp h
      refine V_callVi (As := [.int l3]) C (X1_comeUp_ok h34) mw_X1_comeUp.1 mw_X1_comeUp.2.1 mw_X1_comeUp.2.2 q3_53 oX_27.1 oX_27.2.1 (by decide) rfl rfl (by omega) rfl rfl rfl (Nat.le_of_ble_eq_true rfl) dX3_seekWaysBehind_34 ?_
      by_cases c2 : x34.1 = 0
      · rw [if_pos c2] at h
        refine V_if_neF C 43 dX3_seekWaysBehind_37 (by decide) c2 ?_
        refine V_goto C 73 dX3_seekWaysBehind_40 (by decide) ?_
        refine V_iinc C (w := (l3 + 1)) (lv' := [(3, .int (l3 + 1)), (0, .ref (G.2.1 35)), (1, .int l1), (2, .ref (G.2.1 l2))]) 3 dX3_seekWaysBehind_73 rfl (congrArg (l3 + ·) (show Int32.ofInt 1 = 1 by decide)) (by decide) rfl ?_
        refine V_goto C 18 dX3_seekWaysBehind_76 (by decide) ?_
        refine V_sub (lv' := [(0, .ref (G.2.1 35)), (1, .int l1), (2, .ref (G.2.1 l2)), (3, .int (l3 + 1))]) [1, 2, 3, 0] rfl ?_
        exact ih h
      · rw [if_neg c2] at h
        refine V_if_neT C 43 dX3_seekWaysBehind_37 (by decide) c2 ?_
        refine V_aload_n C 0 dX3_seekWaysBehind_43 rfl rfl ?_
        refine fg3_32 (r := 27) C oX_35 rfl dX3_seekWaysBehind_44 ?_
        obtain ⟨x47, h47, h⟩ := Option.bind_eq_some_iff.mp h
        refine V_callVi (As := []) C (X1_warmthNow_ok h47) mw_X1_warmthNow.1 mw_X1_warmthNow.2.1 mw_X1_warmthNow.2.2 q3_57 oX_27.1 oX_27.2.1 (by decide) rfl rfl (by omega) rfl rfl rfl (Nat.le_of_ble_eq_true rfl) dX3_seekWaysBehind_47 ?_
        refine V_aload_n C 2 dX3_seekWaysBehind_50 rfl rfl ?_
        refine V_iload_n C 1 dX3_seekWaysBehind_51 rfl rfl ?_
        have g3 : isO shX l2 6 3 := Decidable.byContradiction (fun g9 => by rw [if_neg g9] at h; cases h)
        rw [if_pos g3] at h
        obtain ⟨x52, h52, h⟩ := Option.bind_eq_some_iff.mp h
        refine V_callVi (As := [.int l1]) C (X6_item_ok h52) mw_X6_item.1 mw_X6_item.2.1 mw_X6_item.2.2 q3_61 g3.1 g3.2.1 (by decide) rfl rfl (by omega) rfl rfl rfl (Nat.le_of_ble_eq_true rfl) dX3_seekWaysBehind_52 ?_
        by_cases c4 : x47 = x52
        · rw [if_pos c4] at h
          refine V_icmp_neF C 66 dX3_seekWaysBehind_55 (by decide) c4 ?_
          refine V_aload_n C 0 dX3_seekWaysBehind_58 rfl rfl ?_
          refine V_iload_n C 1 dX3_seekWaysBehind_59 rfl rfl ?_
          refine V_iconst C (w := 1) dX3_seekWaysBehind_60 (by decide) ?_
          refine V_iadd C dX3_seekWaysBehind_61 ?_
          refine V_aload_n C 2 dX3_seekWaysBehind_62 rfl rfl ?_
          obtain ⟨x63, h63, h⟩ := Option.bind_eq_some_iff.mp h
          refine V_callVv (As := [.int (l1 + 1), .ref (G.2.1 l2)]) C (hrec0 h63) mw_X3_seekWaysBehind.1 mw_X3_seekWaysBehind.2.1 mw_X3_seekWaysBehind.2.2 q3_41 oX_35.1 oX_35.2.1 (by decide) rfl rfl (by omega) rfl rfl rfl (Nat.le_of_ble_eq_true rfl) dX3_seekWaysBehind_63 ?_
          exact X3_seekWaysBehind_b66_ok C hd hH hrec0 (fun h => ih h) h
        · rw [if_neg c4] at h
          refine V_icmp_neT C 66 dX3_seekWaysBehind_55 (by decide) c4 ?_
          exact X3_seekWaysBehind_b66_ok C hd hH hrec0 (fun h => ih h) h
def X3_seekWaysBehind (rec : Int32 → Nat → St → Option St) (l1 : Int32) (l2 : Nat) (σ : St) : Option St := if l1 < (σ.1 1 5) then (X3_seekWaysBehind_b18 rec FU l1 l2 0 σ) else ((X3_noteWay σ).bind (fun x12 => some x12))
set_option maxRecDepth 100000 in
set_option maxHeartbeats 4000000 in
theorem X3_seekWaysBehind_ok {hr : Nat} {rec : Int32 → Nat → St → Option St} (hH : 5 ≤ hr) (hrec0 : ∀  {l1 : Int32} {l2 : Nat} {σ : St} {x : St}, rec l1 l2 σ = some x → Ct shX hr yX3_seekWaysBehind cX3_seekWaysBehind 4 none (fun G => [.ref (G.2.1 35), .int l1, .ref (G.2.1 l2)]) σ (fun G => none) x) {l1 : Int32} {l2 : Nat} {σ : St} {x : St} (h : X3_seekWaysBehind rec l1 l2 σ = some x) : Ct shX (hr + 1) yX3_seekWaysBehind cX3_seekWaysBehind 4 none (fun G => [.ref (G.2.1 35), .int l1, .ref (G.2.1 l2)]) σ (fun G => none) x := by
  refine Ct.of mw_X3_seekWaysBehind.1 (by decide +kernel) (fun G => Nat.le_of_ble_eq_true rfl) (fun G p l e d s m args below meth c A hd C => ?_)
  refine (?_ : Vw shX G p l e d s m args below meth c 4 A σ 0 [(0, .ref (G.2.1 35)), (1, .int l1), (2, .ref (G.2.1 l2))] [] (none) x)
  unfold X3_seekWaysBehind at h
  refine V_iload_n C 1 dX3_seekWaysBehind_0 rfl rfl ?_
  refine V_aload_n C 0 dX3_seekWaysBehind_1 rfl rfl ?_
  refine fg3_28 (r := 1) C oX_35 rfl dX3_seekWaysBehind_2 ?_
  refine fg3_45 C oX_1 dX3_seekWaysBehind_5 ?_
  by_cases c5 : l1 < (σ.1 1 5)
  · rw [if_pos c5] at h
    refine V_icmp_ltT C 16 dX3_seekWaysBehind_8 (by decide) c5 ?_
    refine V_iconst C (w := 0) dX3_seekWaysBehind_16 (by decide) ?_
    refine V_istore_n C (lv' := [(3, .int 0), (0, .ref (G.2.1 35)), (1, .int l1), (2, .ref (G.2.1 l2))]) dX3_seekWaysBehind_17 rfl (by decide) rfl ?_
    refine V_sub (lv' := [(0, .ref (G.2.1 35)), (1, .int l1), (2, .ref (G.2.1 l2)), (3, .int 0)]) [1, 2, 3, 0] rfl ?_
    exact X3_seekWaysBehind_b18_ok C hd hH hrec0 FU h
  · rw [if_neg c5] at h
    refine V_icmp_ltF C 16 dX3_seekWaysBehind_8 (by decide) c5 ?_
    refine V_aload_n C 0 dX3_seekWaysBehind_11 rfl rfl ?_
    obtain ⟨x12, h12, h⟩ := Option.bind_eq_some_iff.mp h
    refine V_callVv (As := []) C (X3_noteWay_ok h12) mw_X3_noteWay.1 mw_X3_noteWay.2.1 mw_X3_noteWay.2.2 q3_50 oX_35.1 oX_35.2.1 (by decide) rfl rfl (by omega) rfl rfl rfl (Nat.le_of_ble_eq_true rfl) dX3_seekWaysBehind_12 ?_
    obtain rfl := Option.some.inj h
    exact V_vret C rfl dX3_seekWaysBehind_15
def X3_seekWaysBehind_K : Nat → Int32 → Nat → St → Option St
  | 0, _, _, _ => none
  | n + 1, l1, l2, σ => X3_seekWaysBehind (X3_seekWaysBehind_K n) l1 l2 σ
theorem X3_seekWaysBehind_K_ok : ∀ n : Nat, (∀  {l1 : Int32} {l2 : Nat} {σ : St} {x : St}, X3_seekWaysBehind_K n l1 l2 σ = some x → Ct shX (5 + 1 * n) yX3_seekWaysBehind cX3_seekWaysBehind 4 none (fun G => [.ref (G.2.1 35), .int l1, .ref (G.2.1 l2)]) σ (fun G => none) x) := by
  intro n
  induction n with
  | zero => refine fun h => by cases h
  | succ n ih =>
    refine fun h => Ct.mono (show 5 + 1 * n + 1 ≤ 5 + 1 * (n + 1) by omega) (X3_seekWaysBehind_ok (hr := 5 + 1 * n) (rec := X3_seekWaysBehind_K n) (by omega) ih (by exact h))
theorem X3_seekWaysBehind_okK {l1 : Int32} {l2 : Nat} {σ : St} {x : St} (h : X3_seekWaysBehind (X3_seekWaysBehind_K FR) l1 l2 σ = some x) : Ct shX 14 yX3_seekWaysBehind cX3_seekWaysBehind 4 none (fun G => [.ref (G.2.1 35), .int l1, .ref (G.2.1 l2)]) σ (fun G => none) x := Ct.mono (show 5 + 1 * FR + 1 ≤ 14 by decide) (X3_seekWaysBehind_ok (hr := 5 + 1 * FR) (by omega) (X3_seekWaysBehind_K_ok FR) h)
def X3_seekWays (l1 : Nat) (σ : St) : Option St := (X1_begin (up (up (up σ 35 4 0) 35 5 0) 35 6 0)).bind (fun x19 => (X3_seekWaysBehind (X3_seekWaysBehind_K FR) 0 l1 x19).bind (fun x25 => some x25))
set_option maxRecDepth 100000 in
set_option maxHeartbeats 4000000 in
theorem X3_seekWays_ok {l1 : Nat} {σ : St} {x : St} (h : X3_seekWays l1 σ = some x) : Ct shX (15) yX3_seekWays cX3_seekWays 2 none (fun G => [.ref (G.2.1 35), .ref (G.2.1 l1)]) σ (fun G => none) x := by
  refine Ct.of mw_X3_seekWays.1 (by decide +kernel) (fun G => Nat.le_of_ble_eq_true rfl) (fun G p l e d s m args below meth c A hd C => ?_)
  refine (?_ : Vw shX G p l e d s m args below meth c 2 A σ 0 [(0, .ref (G.2.1 35)), (1, .ref (G.2.1 l1))] [] (none) x)
  unfold X3_seekWays at h
  refine V_aload_n C 0 dX3_seekWays_0 rfl rfl ?_
  refine V_iconst C (w := 0) dX3_seekWays_1 (by decide) ?_
  refine fp3_18 C oX_35 dX3_seekWays_2 ?_
  refine V_aload_n C 0 dX3_seekWays_5 rfl rfl ?_
  refine V_iconst C (w := 0) dX3_seekWays_6 (by decide) ?_
  refine fp3_22 C oX_35 dX3_seekWays_7 ?_
  refine V_aload_n C 0 dX3_seekWays_10 rfl rfl ?_
  refine V_iconst C (w := 0) dX3_seekWays_11 (by decide) ?_
  refine fp3_25 C oX_35 dX3_seekWays_12 ?_
  refine V_aload_n C 0 dX3_seekWays_15 rfl rfl ?_
  refine fg3_32 (r := 27) C oX_35 rfl dX3_seekWays_16 ?_
  obtain ⟨x19, h19, h⟩ := Option.bind_eq_some_iff.mp h
  refine V_callVv (As := []) C (X1_begin_ok h19) mw_X1_begin.1 mw_X1_begin.2.1 mw_X1_begin.2.2 q3_36 oX_27.1 oX_27.2.1 (by decide) rfl rfl (by omega) rfl rfl rfl (Nat.le_of_ble_eq_true rfl) dX3_seekWays_19 ?_
  refine V_aload_n C 0 dX3_seekWays_22 rfl rfl ?_
  refine V_iconst C (w := 0) dX3_seekWays_23 (by decide) ?_
  refine V_aload_n C 1 dX3_seekWays_24 rfl rfl ?_
  obtain ⟨x25, h25, h⟩ := Option.bind_eq_some_iff.mp h
  refine V_callVv (As := [.int 0, .ref (G.2.1 l1)]) C (X3_seekWaysBehind_okK h25) mw_X3_seekWaysBehind.1 mw_X3_seekWaysBehind.2.1 mw_X3_seekWaysBehind.2.2 q3_41 oX_35.1 oX_35.2.1 (by decide) rfl rfl (by omega) rfl rfl rfl (Nat.le_of_ble_eq_true rfl) dX3_seekWays_25 ?_
  obtain rfl := Option.some.inj h
  exact V_vret C rfl dX3_seekWays_28
def X3_firstOtherwise_b9 : Nat → Nat → Int32 → St → Option (Int32 × St)
  | 0, _, _, _ => none
  | F + 1, l1, l2, σ => if (σ.1 1 5) ≤ l2 then (some ((-1), σ)) else ((X1_comeUp l2 σ).bind (fun x25 => (X1_warmthNow x25.2).bind (fun x33 => if isO shX l1 6 3 then ((X6_item l1 l2 x25.2).bind (fun x38 => if x33 = x38 then (X3_firstOtherwise_b9 F l1 (l2 + 1) x25.2) else (some (l2, x25.2)))) else none)))
set_option maxRecDepth 100000 in
set_option maxHeartbeats 4000000 in
theorem X3_firstOtherwise_b9_ok {G : Gx} {p : Program} {l : Launch} {e : Env} {d : Nat} {s : State} {m : MethodId} {args : Array Value} {below : List Frame} {meth : Method} {c : Code} {A : Nat → Prop} (C : OK shX G p s m args meth c RX3 cX3_firstOtherwise 3 (some FieldType.int) A) (hd : 5 ≤ d) : ∀ (F : Nat) {l1 : Nat} {l2 : Int32} {σ : St} {x : (Int32 × St)} (h : X3_firstOtherwise_b9 F l1 l2 σ = some x), Vw shX G p l e d s m args below meth c 3 A σ 9 [(0, .ref (G.2.1 35)), (1, .ref (G.2.1 l1)), (2, .int l2)] [] (some (.int x.1)) x.2 := by
  intro F
  induction F with
  | zero =>
    intro l1 l2 σ x h
    rw [X3_firstOtherwise_b9] at h
    cases h
  | succ F ih =>
    intro l1 l2 σ x h
    rw [X3_firstOtherwise_b9] at h
    refine V_iload_n C 2 dX3_firstOtherwise_9 rfl rfl ?_
    refine V_aload_n C 0 dX3_firstOtherwise_10 rfl rfl ?_
    refine fg3_28 (r := 1) C oX_35 rfl dX3_firstOtherwise_11 ?_
    refine fg3_45 C oX_1 dX3_firstOtherwise_14 ?_
    by_cases c1 : (σ.1 1 5) ≤ l2
    · rw [if_pos c1] at h
      refine V_icmp_geT C 52 dX3_firstOtherwise_17 (by decide) c1 ?_
      refine V_iconst C (w := (-1)) dX3_firstOtherwise_52 (by decide) ?_
      obtain rfl := Option.some.inj h
      exact V_iret C rfl rfl dX3_firstOtherwise_53
    · rw [if_neg c1] at h
      refine V_icmp_geF C 52 dX3_firstOtherwise_17 (by decide) c1 ?_
      refine V_aload_n C 0 dX3_firstOtherwise_20 rfl rfl ?_
      refine fg3_32 (r := 27) C oX_35 rfl dX3_firstOtherwise_21 ?_
      refine V_iload_n C 2 dX3_firstOtherwise_24 rfl rfl ?_
      obtain ⟨x25, h25, h⟩ := Option.bind_eq_some_iff.mp h
      refine V_callVi (As := [.int l2]) C (X1_comeUp_ok h25) mw_X1_comeUp.1 mw_X1_comeUp.2.1 mw_X1_comeUp.2.2 q3_53 oX_27.1 oX_27.2.1 (by decide) rfl rfl (by omega) rfl rfl rfl (Nat.le_of_ble_eq_true rfl) dX3_firstOtherwise_25 ?_
      refine V_pop C dX3_firstOtherwise_28 rfl ?_
      refine V_aload_n C 0 dX3_firstOtherwise_29 rfl rfl ?_
      refine fg3_32 (r := 27) C oX_35 rfl dX3_firstOtherwise_30 ?_
      obtain ⟨x33, h33, h⟩ := Option.bind_eq_some_iff.mp h
      refine V_callVi (As := []) C (X1_warmthNow_ok h33) mw_X1_warmthNow.1 mw_X1_warmthNow.2.1 mw_X1_warmthNow.2.2 q3_57 oX_27.1 oX_27.2.1 (by decide) rfl rfl (by omega) rfl rfl rfl (Nat.le_of_ble_eq_true rfl) dX3_firstOtherwise_33 ?_
      refine V_aload_n C 1 dX3_firstOtherwise_36 rfl rfl ?_
      refine V_iload_n C 2 dX3_firstOtherwise_37 rfl rfl ?_
      have g2 : isO shX l1 6 3 := Decidable.byContradiction (fun g9 => by rw [if_neg g9] at h; cases h)
      rw [if_pos g2] at h
      obtain ⟨x38, h38, h⟩ := Option.bind_eq_some_iff.mp h
      refine V_callVi (As := [.int l2]) C (X6_item_ok h38) mw_X6_item.1 mw_X6_item.2.1 mw_X6_item.2.2 q3_61 g2.1 g2.2.1 (by decide) rfl rfl (by omega) rfl rfl rfl (Nat.le_of_ble_eq_true rfl) dX3_firstOtherwise_38 ?_
      by_cases c3 : x33 = x38
      · rw [if_pos c3] at h
        refine V_icmp_eqT C 46 dX3_firstOtherwise_41 (by decide) c3 ?_
        refine V_iinc C (w := (l2 + 1)) (lv' := [(2, .int (l2 + 1)), (0, .ref (G.2.1 35)), (1, .ref (G.2.1 l1))]) 2 dX3_firstOtherwise_46 rfl (congrArg (l2 + ·) (show Int32.ofInt 1 = 1 by decide)) (by decide) rfl ?_
        refine V_goto C 9 dX3_firstOtherwise_49 (by decide) ?_
        refine V_sub (lv' := [(0, .ref (G.2.1 35)), (1, .ref (G.2.1 l1)), (2, .int (l2 + 1))]) [1, 2, 0] rfl ?_
        exact ih h
      · rw [if_neg c3] at h
        refine V_icmp_eqF C 46 dX3_firstOtherwise_41 (by decide) c3 ?_
        refine V_iload_n C 2 dX3_firstOtherwise_44 rfl rfl ?_
        obtain rfl := Option.some.inj h
        exact V_iret C rfl rfl dX3_firstOtherwise_45
def X3_firstOtherwise (l1 : Nat) (σ : St) : Option (Int32 × St) := (X1_begin σ).bind (fun x4 => X3_firstOtherwise_b9 FU l1 0 x4)
set_option maxRecDepth 100000 in
set_option maxHeartbeats 4000000 in
theorem X3_firstOtherwise_ok {l1 : Nat} {σ : St} {x : (Int32 × St)} (h : X3_firstOtherwise l1 σ = some x) : Ct shX (5) yX3_firstOtherwise cX3_firstOtherwise 3 (some FieldType.int) (fun G => [.ref (G.2.1 35), .ref (G.2.1 l1)]) σ (fun G => some (.int x.1)) x.2 := by
  refine Ct.of mw_X3_firstOtherwise.1 (by decide +kernel) (fun G => Nat.le_of_ble_eq_true rfl) (fun G p l e d s m args below meth c A hd C => ?_)
  refine (?_ : Vw shX G p l e d s m args below meth c 3 A σ 0 [(0, .ref (G.2.1 35)), (1, .ref (G.2.1 l1))] [] (some (.int x.1)) x.2)
  unfold X3_firstOtherwise at h
  refine V_aload_n C 0 dX3_firstOtherwise_0 rfl rfl ?_
  refine fg3_32 (r := 27) C oX_35 rfl dX3_firstOtherwise_1 ?_
  obtain ⟨x4, h4, h⟩ := Option.bind_eq_some_iff.mp h
  refine V_callVv (As := []) C (X1_begin_ok h4) mw_X1_begin.1 mw_X1_begin.2.1 mw_X1_begin.2.2 q3_36 oX_27.1 oX_27.2.1 (by decide) rfl rfl (by omega) rfl rfl rfl (Nat.le_of_ble_eq_true rfl) dX3_firstOtherwise_4 ?_
  refine V_iconst C (w := 0) dX3_firstOtherwise_7 (by decide) ?_
  refine V_istore_n C (lv' := [(2, .int 0), (0, .ref (G.2.1 35)), (1, .ref (G.2.1 l1))]) dX3_firstOtherwise_8 rfl (by decide) rfl ?_
  refine V_sub (lv' := [(0, .ref (G.2.1 35)), (1, .ref (G.2.1 l1)), (2, .int 0)]) [1, 2, 0] rfl ?_
  exact X3_firstOtherwise_b9_ok C hd FU h
def X5_rowOf (l0 : Nat) (l1 : Int32) (σ : St) : Option Nat := if l1 = 3 then (if isO shX l0 5 10 then (some (rfX l0 7)) else none) else (if l1 = 4 then (if isO shX l0 5 10 then (some (rfX l0 8)) else none) else (if l1 = 5 then (if isO shX l0 5 10 then (some (rfX l0 9)) else none) else (if isO shX l0 5 10 then (some (rfX l0 6)) else none)))
set_option maxRecDepth 100000 in
set_option maxHeartbeats 4000000 in
theorem X5_rowOf_ok {l0 : Nat} {l1 : Int32} {σ : St} {x : Nat} (h : X5_rowOf l0 l1 σ = some x) : Ct shX (1) yX5_rowOf cX5_rowOf 2 (some (FieldType.array FieldType.int)) (fun G => [.ref (G.2.1 l0), .int l1]) σ (fun G => some (.ref (G.2.1 x))) σ := by
  refine Ct.of mw_X5_rowOf.1 (by decide +kernel) (fun G => Nat.le_of_ble_eq_true rfl) (fun G p l e d s m args below meth c A hd C => ?_)
  refine (?_ : Vw shX G p l e d s m args below meth c 2 A σ 0 [(0, .ref (G.2.1 l0)), (1, .int l1)] [] (some (.ref (G.2.1 x))) σ)
  unfold X5_rowOf at h
  refine V_iload_n C 1 dX5_rowOf_0 rfl rfl ?_
  by_cases c1 : l1 = 3
  · rw [if_pos c1] at h
    refine V_tableIn (off := 27) C 28 dX5_rowOf_1 (by rw [c1]; decide) (by decide) ?_
    refine V_aload_n C 0 dX5_rowOf_28 rfl rfl ?_
    have g7 : isO shX l0 5 10 := Decidable.byContradiction (fun g9 => by rw [if_neg g9] at h; cases h)
    rw [if_pos g7] at h
    refine fg5_34 (r := (rfX l0 7)) C g7 rfl dX5_rowOf_29 ?_
    obtain rfl := Option.some.inj h
    exact V_aret C rfl (by first | exact Or.inl ⟨_, rfl⟩ | exact Or.inr ⟨_, rfl⟩) (Or.inr ⟨_, rfl⟩) dX5_rowOf_32
  · rw [if_neg c1] at h
    by_cases c2 : l1 = 4
    · rw [if_pos c2] at h
      refine V_tableIn (off := 32) C 33 dX5_rowOf_1 (by rw [c2]; decide) (by decide) ?_
      refine V_aload_n C 0 dX5_rowOf_33 rfl rfl ?_
      have g6 : isO shX l0 5 10 := Decidable.byContradiction (fun g9 => by rw [if_neg g9] at h; cases h)
      rw [if_pos g6] at h
      refine fg5_37 (r := (rfX l0 8)) C g6 rfl dX5_rowOf_34 ?_
      obtain rfl := Option.some.inj h
      exact V_aret C rfl (by first | exact Or.inl ⟨_, rfl⟩ | exact Or.inr ⟨_, rfl⟩) (Or.inr ⟨_, rfl⟩) dX5_rowOf_37
    · rw [if_neg c2] at h
      by_cases c3 : l1 = 5
      · rw [if_pos c3] at h
        refine V_tableIn (off := 37) C 38 dX5_rowOf_1 (by rw [c3]; decide) (by decide) ?_
        refine V_aload_n C 0 dX5_rowOf_38 rfl rfl ?_
        have g5 : isO shX l0 5 10 := Decidable.byContradiction (fun g9 => by rw [if_neg g9] at h; cases h)
        rw [if_pos g5] at h
        refine fg5_40 (r := (rfX l0 9)) C g5 rfl dX5_rowOf_39 ?_
        obtain rfl := Option.some.inj h
        exact V_aret C rfl (by first | exact Or.inl ⟨_, rfl⟩ | exact Or.inr ⟨_, rfl⟩) (Or.inr ⟨_, rfl⟩) dX5_rowOf_42
      · rw [if_neg c3] at h
        have nc1 := ti_ne c1 (show (3 : Int32).toInt = 3 by decide)
        have nc2 := ti_ne c2 (show (4 : Int32).toInt = 4 by decide)
        have nc3 := ti_ne c3 (show (5 : Int32).toInt = 5 by decide)
        refine V_tableOut C 43 dX5_rowOf_1 (by omega) (by decide) ?_
        refine V_aload_n C 0 dX5_rowOf_43 rfl rfl ?_
        have g4 : isO shX l0 5 10 := Decidable.byContradiction (fun g9 => by rw [if_neg g9] at h; cases h)
        rw [if_pos g4] at h
        refine fg5_30 (r := (rfX l0 6)) C g4 rfl dX5_rowOf_44 ?_
        obtain rfl := Option.some.inj h
        exact V_aret C rfl (by first | exact Or.inl ⟨_, rfl⟩ | exact Or.inr ⟨_, rfl⟩) (Or.inr ⟨_, rfl⟩) dX5_rowOf_47
def X5_value (l0 : Nat) (l1 : Int32) (l2 : Int32) (σ : St) : Option Int32 := if l1 = 0 then (if isO shX l0 5 10 then (some (σ.1 l0 0)) else none) else (if l1 = 1 then (if isO shX l0 5 10 then (some (σ.1 l0 1)) else none) else (if l1 = 2 then (if isO shX l0 5 10 then (some (σ.1 l0 2)) else none) else (if isO shX l0 5 10 then ((X5_rowOf l0 l1 σ).bind (fun x45 => if l2 < 0 then (some (-1)) else (if isA shX x45 20 then (if (Int32.ofNat (lnX x45)) ≤ l2 then (some (-1)) else (if ob l2 (lnX x45) then none else (some (σ.1 x45 (l2).toNatClampNeg)))) else none))) else none)))
set_option maxRecDepth 100000 in
set_option maxHeartbeats 4000000 in
theorem X5_value_ok {l0 : Nat} {l1 : Int32} {l2 : Int32} {σ : St} {x : Int32} (h : X5_value l0 l1 l2 σ = some x) : Ct shX (2) yX5_value cX5_value 4 (some FieldType.int) (fun G => [.ref (G.2.1 l0), .int l1, .int l2]) σ (fun G => some (.int x)) σ := by
  refine Ct.of mw_X5_value.1 (by decide +kernel) (fun G => Nat.le_of_ble_eq_true rfl) (fun G p l e d s m args below meth c A hd C => ?_)
  refine (?_ : Vw shX G p l e d s m args below meth c 4 A σ 0 [(0, .ref (G.2.1 l0)), (1, .int l1), (2, .int l2)] [] (some (.int x)) σ)
  unfold X5_value at h
  refine V_iload_n C 1 dX5_value_0 rfl rfl ?_
  by_cases c1 : l1 = 0
  · rw [if_pos c1] at h
    refine V_tableIn (off := 27) C 28 dX5_value_1 (by rw [c1]; decide) (by decide) ?_
    refine V_aload_n C 0 dX5_value_28 rfl rfl ?_
    have g11 : isO shX l0 5 10 := Decidable.byContradiction (fun g9 => by rw [if_neg g9] at h; cases h)
    rw [if_pos g11] at h
    refine fg5_9 C g11 dX5_value_29 ?_
    obtain rfl := Option.some.inj h
    exact V_iret C rfl rfl dX5_value_32
  · rw [if_neg c1] at h
    by_cases c2 : l1 = 1
    · rw [if_pos c2] at h
      refine V_tableIn (off := 32) C 33 dX5_value_1 (by rw [c2]; decide) (by decide) ?_
      refine V_aload_n C 0 dX5_value_33 rfl rfl ?_
      have g10 : isO shX l0 5 10 := Decidable.byContradiction (fun g9 => by rw [if_neg g9] at h; cases h)
      rw [if_pos g10] at h
      refine fg5_15 C g10 dX5_value_34 ?_
      obtain rfl := Option.some.inj h
      exact V_iret C rfl rfl dX5_value_37
    · rw [if_neg c2] at h
      by_cases c3 : l1 = 2
      · rw [if_pos c3] at h
        refine V_tableIn (off := 37) C 38 dX5_value_1 (by rw [c3]; decide) (by decide) ?_
        refine V_aload_n C 0 dX5_value_38 rfl rfl ?_
        have g9 : isO shX l0 5 10 := Decidable.byContradiction (fun g9 => by rw [if_neg g9] at h; cases h)
        rw [if_pos g9] at h
        refine fg5_18 C g9 dX5_value_39 ?_
        obtain rfl := Option.some.inj h
        exact V_iret C rfl rfl dX5_value_42
      · rw [if_neg c3] at h
        have nc1 := ti_ne c1 (show (0 : Int32).toInt = 0 by decide)
        have nc2 := ti_ne c2 (show (1 : Int32).toInt = 1 by decide)
        have nc3 := ti_ne c3 (show (2 : Int32).toInt = 2 by decide)
        refine V_tableOut C 43 dX5_value_1 (by omega) (by decide) ?_
        refine V_aload_n C 0 dX5_value_43 rfl rfl ?_
        refine V_iload_n C 1 dX5_value_44 rfl rfl ?_
        have g4 : isO shX l0 5 10 := Decidable.byContradiction (fun g9 => by rw [if_neg g9] at h; cases h)
        rw [if_pos g4] at h
        obtain ⟨x45, h45, h⟩ := Option.bind_eq_some_iff.mp h
        refine V_callVr (As := [.int l1]) C (X5_rowOf_ok h45) mw_X5_rowOf.1 mw_X5_rowOf.2.1 mw_X5_rowOf.2.2 q5_43 g4.1 g4.2.1 (by decide) rfl rfl (by omega) rfl rfl rfl (Nat.le_of_ble_eq_true rfl) dX5_value_45 ?_
        refine V_astore_n C (lv' := [(3, .ref (G.2.1 x45)), (0, .ref (G.2.1 l0)), (1, .int l1), (2, .int l2)]) dX5_value_48 rfl (by decide) rfl ?_
        refine V_iload_n C 3 dX5_value_49 rfl rfl ?_
        by_cases c5 : l2 < 0
        · rw [if_pos c5] at h
          refine V_if_ltT C 65 dX5_value_50 (by decide) c5 ?_
          refine V_iconst C (w := (-1)) dX5_value_65 (by decide) ?_
          obtain rfl := Option.some.inj h
          exact V_iret C rfl rfl dX5_value_66
        · rw [if_neg c5] at h
          refine V_if_ltF C 65 dX5_value_50 (by decide) c5 ?_
          refine V_iload_n C 3 dX5_value_53 rfl rfl ?_
          refine V_aload_n C 0 dX5_value_54 rfl rfl ?_
          have g6 : isA shX x45 20 := Decidable.byContradiction (fun g9 => by rw [if_neg g9] at h; cases h)
          rw [if_pos g6] at h
          refine V_alenI C g6.1 g6.2 rfl dX5_value_55 ?_
          by_cases c7 : (Int32.ofNat (lnX x45)) ≤ l2
          · rw [if_pos c7] at h
            refine V_icmp_geT C 65 dX5_value_56 (by decide) c7 ?_
            refine V_iconst C (w := (-1)) dX5_value_65 (by decide) ?_
            obtain rfl := Option.some.inj h
            exact V_iret C rfl rfl dX5_value_66
          · rw [if_neg c7] at h
            refine V_icmp_geF C 65 dX5_value_56 (by decide) c7 ?_
            refine V_aload_n C 0 dX5_value_59 rfl rfl ?_
            refine V_iload_n C 3 dX5_value_60 rfl rfl ?_
            have g8 : ¬ (ob l2 (lnX x45)) := fun g9 => by rw [if_pos g9] at h; cases h
            rw [if_neg g8] at h
            refine V_ialdA C g6 g8 dX5_value_61 ?_
            refine V_goto C 66 dX5_value_62 (by decide) ?_
            obtain rfl := Option.some.inj h
            exact V_iret C rfl rfl dX5_value_66
def X5_change (l0 : Nat) (l1 : Int32) (l2 : Int32) (l3 : Int32) (σ : St) : Option St := if l1 = 0 then (if isO shX l0 5 10 then (some (up σ l0 0 l3)) else none) else (if l1 = 1 then (if isO shX l0 5 10 then (some (up σ l0 1 l3)) else none) else (if l1 = 2 then (if isO shX l0 5 10 then (some (up σ l0 2 l3)) else none) else (if isO shX l0 5 10 then ((X5_rowOf l0 l1 σ).bind (fun x54 => if l2 < 0 then (some σ) else (if isA shX x54 20 then (if (Int32.ofNat (lnX x54)) ≤ l2 then (some σ) else (if ob l2 (lnX x54) then none else (some (up σ x54 (l2).toNatClampNeg l3)))) else none))) else none)))
set_option maxRecDepth 100000 in
set_option maxHeartbeats 4000000 in
theorem X5_change_ok {l0 : Nat} {l1 : Int32} {l2 : Int32} {l3 : Int32} {σ : St} {x : St} (h : X5_change l0 l1 l2 l3 σ = some x) : Ct shX (2) yX5_change cX5_change 5 none (fun G => [.ref (G.2.1 l0), .int l1, .int l2, .int l3]) σ (fun G => none) x := by
  refine Ct.of mw_X5_change.1 (by decide +kernel) (fun G => Nat.le_of_ble_eq_true rfl) (fun G p l e d s m args below meth c A hd C => ?_)
  refine (?_ : Vw shX G p l e d s m args below meth c 5 A σ 0 [(0, .ref (G.2.1 l0)), (1, .int l1), (2, .int l2), (3, .int l3)] [] (none) x)
  unfold X5_change at h
  refine V_iload_n C 1 dX5_change_0 rfl rfl ?_
  by_cases c1 : l1 = 0
  · rw [if_pos c1] at h
    refine V_tableIn (off := 27) C 28 dX5_change_1 (by rw [c1]; decide) (by decide) ?_
    refine V_aload_n C 0 dX5_change_28 rfl rfl ?_
    refine V_iload_n C 3 dX5_change_29 rfl rfl ?_
    have g11 : isO shX l0 5 10 := Decidable.byContradiction (fun g9 => by rw [if_neg g9] at h; cases h)
    rw [if_pos g11] at h
    refine fp5_9 C g11 dX5_change_30 ?_
    refine V_goto C 75 dX5_change_33 (by decide) ?_
    obtain rfl := Option.some.inj h
    exact V_vret C rfl dX5_change_75
  · rw [if_neg c1] at h
    by_cases c2 : l1 = 1
    · rw [if_pos c2] at h
      refine V_tableIn (off := 35) C 36 dX5_change_1 (by rw [c2]; decide) (by decide) ?_
      refine V_aload_n C 0 dX5_change_36 rfl rfl ?_
      refine V_iload_n C 3 dX5_change_37 rfl rfl ?_
      have g10 : isO shX l0 5 10 := Decidable.byContradiction (fun g9 => by rw [if_neg g9] at h; cases h)
      rw [if_pos g10] at h
      refine fp5_15 C g10 dX5_change_38 ?_
      refine V_goto C 75 dX5_change_41 (by decide) ?_
      obtain rfl := Option.some.inj h
      exact V_vret C rfl dX5_change_75
    · rw [if_neg c2] at h
      by_cases c3 : l1 = 2
      · rw [if_pos c3] at h
        refine V_tableIn (off := 43) C 44 dX5_change_1 (by rw [c3]; decide) (by decide) ?_
        refine V_aload_n C 0 dX5_change_44 rfl rfl ?_
        refine V_iload_n C 3 dX5_change_45 rfl rfl ?_
        have g9 : isO shX l0 5 10 := Decidable.byContradiction (fun g9 => by rw [if_neg g9] at h; cases h)
        rw [if_pos g9] at h
        refine fp5_18 C g9 dX5_change_46 ?_
        refine V_goto C 75 dX5_change_49 (by decide) ?_
        obtain rfl := Option.some.inj h
        exact V_vret C rfl dX5_change_75
      · rw [if_neg c3] at h
        have nc1 := ti_ne c1 (show (0 : Int32).toInt = 0 by decide)
        have nc2 := ti_ne c2 (show (1 : Int32).toInt = 1 by decide)
        have nc3 := ti_ne c3 (show (2 : Int32).toInt = 2 by decide)
        refine V_tableOut C 52 dX5_change_1 (by omega) (by decide) ?_
        refine V_aload_n C 0 dX5_change_52 rfl rfl ?_
        refine V_iload_n C 1 dX5_change_53 rfl rfl ?_
        have g4 : isO shX l0 5 10 := Decidable.byContradiction (fun g9 => by rw [if_neg g9] at h; cases h)
        rw [if_pos g4] at h
        obtain ⟨x54, h54, h⟩ := Option.bind_eq_some_iff.mp h
        refine V_callVr (As := [.int l1]) C (X5_rowOf_ok h54) mw_X5_rowOf.1 mw_X5_rowOf.2.1 mw_X5_rowOf.2.2 q5_43 g4.1 g4.2.1 (by decide) rfl rfl (by omega) rfl rfl rfl (Nat.le_of_ble_eq_true rfl) dX5_change_54 ?_
        refine V_astore C (lv' := [(4, .ref (G.2.1 x54)), (0, .ref (G.2.1 l0)), (1, .int l1), (2, .int l2), (3, .int l3)]) dX5_change_57 (by decide) rfl ?_
        refine V_iload_n C 3 dX5_change_59 rfl rfl ?_
        by_cases c5 : l2 < 0
        · rw [if_pos c5] at h
          refine V_if_ltT C 75 dX5_change_60 (by decide) c5 ?_
          obtain rfl := Option.some.inj h
          exact V_vret C rfl dX5_change_75
        · rw [if_neg c5] at h
          refine V_if_ltF C 75 dX5_change_60 (by decide) c5 ?_
          refine V_iload_n C 3 dX5_change_63 rfl rfl ?_
          refine V_aload C 0 dX5_change_64 rfl ?_
          have g6 : isA shX x54 20 := Decidable.byContradiction (fun g9 => by rw [if_neg g9] at h; cases h)
          rw [if_pos g6] at h
          refine V_alenI C g6.1 g6.2 rfl dX5_change_66 ?_
          by_cases c7 : (Int32.ofNat (lnX x54)) ≤ l2
          · rw [if_pos c7] at h
            refine V_icmp_geT C 75 dX5_change_67 (by decide) c7 ?_
            obtain rfl := Option.some.inj h
            exact V_vret C rfl dX5_change_75
          · rw [if_neg c7] at h
            refine V_icmp_geF C 75 dX5_change_67 (by decide) c7 ?_
            refine V_aload C 0 dX5_change_70 rfl ?_
            refine V_iload_n C 3 dX5_change_72 rfl rfl ?_
            refine V_iload_n C 4 dX5_change_73 rfl rfl ?_
            have g8 : ¬ (ob l2 (lnX x54)) := fun g9 => by rw [if_pos g9] at h; cases h
            rw [if_neg g8] at h
            refine V_iastA C g6 g8 dX5_change_74 ?_
            obtain rfl := Option.some.inj h
            exact V_vret C rfl dX5_change_75
def X3_fitting_b74 : Nat → Nat → Int32 → Int32 → Int32 → Int32 → Int32 → Int32 → St → Option (Int32 × St)
  | 0, _, _, _, _, _, _, _, _ => none
  | F + 1, l1, l3, l4, l5, l6, l7, l8, σ => if l5 < l8 then ((X5_change 1 l4 l3 l6 σ).bind (fun x126 => some (l7, x126))) else ((X5_change 1 l4 l3 l8 σ).bind (fun x90 => (X3_firstOtherwise l1 x90).bind (fun x95 => if x95.1 = (-1) then (X3_fitting_b74 F l1 l3 l4 l5 l6 (l7 ||| (1 <<< (l8 &&& 31))) (l8 + 1) x95.2) else (X3_fitting_b74 F l1 l3 l4 l5 l6 l7 (l8 + 1) x95.2))))
set_option maxRecDepth 100000 in
set_option maxHeartbeats 4000000 in
theorem X3_fitting_b74_ok {G : Gx} {p : Program} {l : Launch} {e : Env} {d : Nat} {s : State} {m : MethodId} {args : Array Value} {below : List Frame} {meth : Method} {c : Code} {A : Nat → Prop} (C : OK shX G p s m args meth c RX3 cX3_fitting 9 (some FieldType.int) A) (hd : 6 ≤ d) : ∀ (F : Nat) {l1 : Nat} {l3 : Int32} {l4 : Int32} {l5 : Int32} {l6 : Int32} {l7 : Int32} {l8 : Int32} {σ : St} {x : (Int32 × St)} (h : X3_fitting_b74 F l1 l3 l4 l5 l6 l7 l8 σ = some x), Vw shX G p l e d s m args below meth c 9 A σ 74 [(0, .ref (G.2.1 35)), (1, .ref (G.2.1 l1)), (3, .int l3), (4, .int l4), (5, .int l5), (6, .int l6), (7, .int l7), (8, .int l8)] [] (some (.int x.1)) x.2 := by
  intro F
  induction F with
  | zero =>
    intro l1 l3 l4 l5 l6 l7 l8 σ x h
    rw [X3_fitting_b74] at h
    cases h
  | succ F ih =>
    intro l1 l3 l4 l5 l6 l7 l8 σ x h
    rw [X3_fitting_b74] at h
    refine V_iload C 7 dX3_fitting_74 rfl ?_
    refine V_iload C 4 dX3_fitting_76 rfl ?_
    by_cases c1 : l5 < l8
    · rw [if_pos c1] at h
      refine V_icmp_gtT C 117 dX3_fitting_78 (by decide) c1 ?_
      refine V_aload_n C 0 dX3_fitting_117 rfl rfl ?_
      refine fg3_28 (r := 1) C oX_35 rfl dX3_fitting_118 ?_
      refine V_iload C 3 dX3_fitting_121 rfl ?_
      refine V_iload_n C 2 dX3_fitting_123 rfl rfl ?_
      refine V_iload C 5 dX3_fitting_124 rfl ?_
      obtain ⟨x126, h126, h⟩ := Option.bind_eq_some_iff.mp h
      refine V_callVv (As := [.int l4, .int l3, .int l6]) C (X5_change_ok h126) mw_X5_change.1 mw_X5_change.2.1 mw_X5_change.2.2 q3_83 oX_1.1 oX_1.2.1 (by decide) rfl rfl (by omega) rfl rfl rfl (Nat.le_of_ble_eq_true rfl) dX3_fitting_126 ?_
      refine V_iload C 6 dX3_fitting_129 rfl ?_
      obtain rfl := Option.some.inj h
      exact V_iret C rfl rfl dX3_fitting_131
    · rw [if_neg c1] at h
      refine V_icmp_gtF C 117 dX3_fitting_78 (by decide) c1 ?_
      refine V_aload_n C 0 dX3_fitting_81 rfl rfl ?_
      refine fg3_28 (r := 1) C oX_35 rfl dX3_fitting_82 ?_
      refine V_iload C 3 dX3_fitting_85 rfl ?_
      refine V_iload_n C 2 dX3_fitting_87 rfl rfl ?_
      refine V_iload C 7 dX3_fitting_88 rfl ?_
      obtain ⟨x90, h90, h⟩ := Option.bind_eq_some_iff.mp h
      refine V_callVv (As := [.int l4, .int l3, .int l8]) C (X5_change_ok h90) mw_X5_change.1 mw_X5_change.2.1 mw_X5_change.2.2 q3_83 oX_1.1 oX_1.2.1 (by decide) rfl rfl (by omega) rfl rfl rfl (Nat.le_of_ble_eq_true rfl) dX3_fitting_90 ?_
      refine V_aload_n C 0 dX3_fitting_93 rfl rfl ?_
      refine V_aload_n C 1 dX3_fitting_94 rfl rfl ?_
      obtain ⟨x95, h95, h⟩ := Option.bind_eq_some_iff.mp h
      refine V_callVi (As := [.ref (G.2.1 l1)]) C (X3_firstOtherwise_ok h95) mw_X3_firstOtherwise.1 mw_X3_firstOtherwise.2.1 mw_X3_firstOtherwise.2.2 q3_87 oX_35.1 oX_35.2.1 (by decide) rfl rfl (by omega) rfl rfl rfl (Nat.le_of_ble_eq_true rfl) dX3_fitting_95 ?_
      refine V_iconst C (w := (-1)) dX3_fitting_98 (by decide) ?_
      by_cases c2 : x95.1 = (-1)
      · rw [if_pos c2] at h
        refine V_icmp_neF C 111 dX3_fitting_99 (by decide) c2 ?_
        refine V_iload C 6 dX3_fitting_102 rfl ?_
        refine V_iconst C (w := 1) dX3_fitting_104 (by decide) ?_
        refine V_iload C 7 dX3_fitting_105 rfl ?_
        refine V_ishl C dX3_fitting_107 ?_
        refine V_ior C dX3_fitting_108 ?_
        refine V_istore C (lv' := [(7, .int (l7 ||| (1 <<< (l8 &&& 31)))), (0, .ref (G.2.1 35)), (1, .ref (G.2.1 l1)), (3, .int l3), (4, .int l4), (5, .int l5), (6, .int l6), (8, .int l8)]) dX3_fitting_109 (by decide) rfl ?_
        refine V_iinc C (w := (l8 + 1)) (lv' := [(8, .int (l8 + 1)), (7, .int (l7 ||| (1 <<< (l8 &&& 31)))), (0, .ref (G.2.1 35)), (1, .ref (G.2.1 l1)), (3, .int l3), (4, .int l4), (5, .int l5), (6, .int l6)]) 7 dX3_fitting_111 rfl (congrArg (l8 + ·) (show Int32.ofInt 1 = 1 by decide)) (by decide) rfl ?_
        refine V_goto C 74 dX3_fitting_114 (by decide) ?_
        refine V_sub (lv' := [(0, .ref (G.2.1 35)), (1, .ref (G.2.1 l1)), (3, .int l3), (4, .int l4), (5, .int l5), (6, .int l6), (7, .int (l7 ||| (1 <<< (l8 &&& 31)))), (8, .int (l8 + 1))]) [2, 3, 4, 5, 6, 7, 1, 0] rfl ?_
        exact ih h
      · rw [if_neg c2] at h
        refine V_icmp_neT C 111 dX3_fitting_99 (by decide) c2 ?_
        refine V_iinc C (w := (l8 + 1)) (lv' := [(8, .int (l8 + 1)), (0, .ref (G.2.1 35)), (1, .ref (G.2.1 l1)), (3, .int l3), (4, .int l4), (5, .int l5), (6, .int l6), (7, .int l7)]) 7 dX3_fitting_111 rfl (congrArg (l8 + ·) (show Int32.ofInt 1 = 1 by decide)) (by decide) rfl ?_
        refine V_goto C 74 dX3_fitting_114 (by decide) ?_
        refine V_sub (lv' := [(0, .ref (G.2.1 35)), (1, .ref (G.2.1 l1)), (3, .int l3), (4, .int l4), (5, .int l5), (6, .int l6), (7, .int l7), (8, .int (l8 + 1))]) [1, 2, 3, 4, 5, 6, 7, 0] rfl ?_
        exact ih h
def X3_fitting_b54 (l1 : Nat) (l3 : Int32) (l4 : Int32) (s0 : Int32) (σ : St) : Option (Int32 × St) := (X5_value 1 l4 l3 σ).bind (fun x63 => X3_fitting_b74 FU l1 l3 l4 s0 x63 0 0 σ)
set_option maxRecDepth 100000 in
set_option maxHeartbeats 4000000 in
theorem X3_fitting_b54_ok {G : Gx} {p : Program} {l : Launch} {e : Env} {d : Nat} {s : State} {m : MethodId} {args : Array Value} {below : List Frame} {meth : Method} {c : Code} {A : Nat → Prop} (C : OK shX G p s m args meth c RX3 cX3_fitting 9 (some FieldType.int) A) (hd : 6 ≤ d) {l1 : Nat} {l3 : Int32} {l4 : Int32} {s0 : Int32} {σ : St} {x : (Int32 × St)} (h : X3_fitting_b54 l1 l3 l4 s0 σ = some x) : Vw shX G p l e d s m args below meth c 9 A σ 54 [(0, .ref (G.2.1 35)), (1, .ref (G.2.1 l1)), (3, .int l3), (4, .int l4)] [.int s0] (some (.int x.1)) x.2 := by
  unfold X3_fitting_b54 at h
  refine V_istore C (lv' := [(5, .int s0), (0, .ref (G.2.1 35)), (1, .ref (G.2.1 l1)), (3, .int l3), (4, .int l4)]) dX3_fitting_54 (by decide) rfl ?_
  refine V_aload_n C 1 dX3_fitting_56 rfl rfl ?_
  refine fg3_28 (r := 1) C oX_35 rfl dX3_fitting_57 ?_
  refine V_iload C 4 dX3_fitting_60 rfl ?_
  refine V_iload_n C 3 dX3_fitting_62 rfl rfl ?_
  obtain ⟨x63, h63, h⟩ := Option.bind_eq_some_iff.mp h
  refine V_callVi (As := [.int l4, .int l3]) C (X5_value_ok h63) mw_X5_value.1 mw_X5_value.2.1 mw_X5_value.2.2 q3_79 oX_1.1 oX_1.2.1 (by decide) rfl rfl (by omega) rfl rfl rfl (Nat.le_of_ble_eq_true rfl) dX3_fitting_63 ?_
  refine V_istore C (lv' := [(6, .int x63), (5, .int s0), (0, .ref (G.2.1 35)), (1, .ref (G.2.1 l1)), (3, .int l3), (4, .int l4)]) dX3_fitting_66 (by decide) rfl ?_
  refine V_iconst C (w := 0) dX3_fitting_68 (by decide) ?_
  refine V_istore C (lv' := [(7, .int 0), (6, .int x63), (5, .int s0), (0, .ref (G.2.1 35)), (1, .ref (G.2.1 l1)), (3, .int l3), (4, .int l4)]) dX3_fitting_69 (by decide) rfl ?_
  refine V_iconst C (w := 0) dX3_fitting_71 (by decide) ?_
  refine V_istore C (lv' := [(8, .int 0), (7, .int 0), (6, .int x63), (5, .int s0), (0, .ref (G.2.1 35)), (1, .ref (G.2.1 l1)), (3, .int l3), (4, .int l4)]) dX3_fitting_72 (by decide) rfl ?_
  refine V_sub (lv' := [(0, .ref (G.2.1 35)), (1, .ref (G.2.1 l1)), (3, .int l3), (4, .int l4), (5, .int s0), (6, .int x63), (7, .int 0), (8, .int 0)]) [4, 5, 6, 7, 3, 2, 1, 0] rfl ?_
  exact X3_fitting_b74_ok C hd FU h
def X3_fitting_b20 (l1 : Nat) (l2 : Int32) (l3 : Int32) (s0 : Int32) (σ : St) : Option (Int32 × St) := if l2 = 1 then (X3_fitting_b54 l1 l3 s0 (stv 1 6) σ) else (if l2 = 2 then (X3_fitting_b54 l1 l3 s0 (stv 1 3) σ) else (X3_fitting_b54 l1 l3 s0 (stv 1 4) σ))
set_option maxRecDepth 100000 in
set_option maxHeartbeats 4000000 in
theorem X3_fitting_b20_ok {G : Gx} {p : Program} {l : Launch} {e : Env} {d : Nat} {s : State} {m : MethodId} {args : Array Value} {below : List Frame} {meth : Method} {c : Code} {A : Nat → Prop} (C : OK shX G p s m args meth c RX3 cX3_fitting 9 (some FieldType.int) A) (hd : 6 ≤ d) {l1 : Nat} {l2 : Int32} {l3 : Int32} {s0 : Int32} {σ : St} {x : (Int32 × St)} (h : X3_fitting_b20 l1 l2 l3 s0 σ = some x) : Vw shX G p l e d s m args below meth c 9 A σ 20 [(0, .ref (G.2.1 35)), (1, .ref (G.2.1 l1)), (2, .int l2), (3, .int l3)] [.int s0] (some (.int x.1)) x.2 := by
  unfold X3_fitting_b20 at h
  refine V_istore C (lv' := [(4, .int s0), (0, .ref (G.2.1 35)), (1, .ref (G.2.1 l1)), (2, .int l2), (3, .int l3)]) dX3_fitting_20 (by decide) rfl ?_
  refine V_iload_n C 3 dX3_fitting_22 rfl rfl ?_
  refine V_iconst C (w := 1) dX3_fitting_23 (by decide) ?_
  by_cases c3 : l2 = 1
  · rw [if_pos c3] at h
    refine V_icmp_neF C 36 dX3_fitting_24 (by decide) c3 ?_
    refine V_getsN (i := 1) C (by decide) qf3_76 dX3_fitting_27 ?_
    refine V_bipush C (w := 6) dX3_fitting_30 (by decide) ?_
    refine V_sldO (i := 1) C (by decide) rfl (by decide) dX3_fitting_32 ?_
    refine V_goto C 54 dX3_fitting_33 (by decide) ?_
    refine V_sub (lv' := [(0, .ref (G.2.1 35)), (1, .ref (G.2.1 l1)), (3, .int l3), (4, .int s0)]) [1, 2, 4, 0] rfl ?_
    exact X3_fitting_b54_ok C hd h
  · rw [if_neg c3] at h
    refine V_icmp_neT C 36 dX3_fitting_24 (by decide) c3 ?_
    refine V_iload_n C 3 dX3_fitting_36 rfl rfl ?_
    refine V_iconst C (w := 2) dX3_fitting_37 (by decide) ?_
    by_cases c4 : l2 = 2
    · rw [if_pos c4] at h
      refine V_icmp_neF C 49 dX3_fitting_38 (by decide) c4 ?_
      refine V_getsN (i := 1) C (by decide) qf3_76 dX3_fitting_41 ?_
      refine V_iconst C (w := 3) dX3_fitting_44 (by decide) ?_
      refine V_sldO (i := 1) C (by decide) rfl (by decide) dX3_fitting_45 ?_
      refine V_goto C 54 dX3_fitting_46 (by decide) ?_
      refine V_sub (lv' := [(0, .ref (G.2.1 35)), (1, .ref (G.2.1 l1)), (3, .int l3), (4, .int s0)]) [1, 2, 4, 0] rfl ?_
      exact X3_fitting_b54_ok C hd h
    · rw [if_neg c4] at h
      refine V_icmp_neT C 49 dX3_fitting_38 (by decide) c4 ?_
      refine V_getsN (i := 1) C (by decide) qf3_76 dX3_fitting_49 ?_
      refine V_iconst C (w := 4) dX3_fitting_52 (by decide) ?_
      refine V_sldO (i := 1) C (by decide) rfl (by decide) dX3_fitting_53 ?_
      refine V_sub (lv' := [(0, .ref (G.2.1 35)), (1, .ref (G.2.1 l1)), (3, .int l3), (4, .int s0)]) [1, 2, 4, 0] rfl ?_
      exact X3_fitting_b54_ok C hd h
def X3_fitting (l1 : Nat) (l2 : Int32) (l3 : Int32) (σ : St) : Option (Int32 × St) := if l2 = 1 then (X3_fitting_b20 l1 l2 l3 6 σ) else (if l2 = 2 then (X3_fitting_b20 l1 l2 l3 3 σ) else (X3_fitting_b20 l1 l2 l3 4 σ))
set_option maxRecDepth 100000 in
set_option maxHeartbeats 4000000 in
theorem X3_fitting_ok {l1 : Nat} {l2 : Int32} {l3 : Int32} {σ : St} {x : (Int32 × St)} (h : X3_fitting l1 l2 l3 σ = some x) : Ct shX (6) yX3_fitting cX3_fitting 9 (some FieldType.int) (fun G => [.ref (G.2.1 35), .ref (G.2.1 l1), .int l2, .int l3]) σ (fun G => some (.int x.1)) x.2 := by
  refine Ct.of mw_X3_fitting.1 (by decide +kernel) (fun G => Nat.le_of_ble_eq_true rfl) (fun G p l e d s m args below meth c A hd C => ?_)
  refine (?_ : Vw shX G p l e d s m args below meth c 9 A σ 0 [(0, .ref (G.2.1 35)), (1, .ref (G.2.1 l1)), (2, .int l2), (3, .int l3)] [] (some (.int x.1)) x.2)
  unfold X3_fitting at h
  refine V_iload_n C 2 dX3_fitting_0 rfl rfl ?_
  refine V_iconst C (w := 1) dX3_fitting_1 (by decide) ?_
  by_cases c5 : l2 = 1
  · rw [if_pos c5] at h
    refine V_icmp_neF C 10 dX3_fitting_2 (by decide) c5 ?_
    refine V_bipush C (w := 6) dX3_fitting_5 (by decide) ?_
    refine V_goto C 20 dX3_fitting_7 (by decide) ?_
    exact X3_fitting_b20_ok C hd h
  · rw [if_neg c5] at h
    refine V_icmp_neT C 10 dX3_fitting_2 (by decide) c5 ?_
    refine V_iload_n C 2 dX3_fitting_10 rfl rfl ?_
    refine V_iconst C (w := 2) dX3_fitting_11 (by decide) ?_
    by_cases c6 : l2 = 2
    · rw [if_pos c6] at h
      refine V_icmp_neF C 19 dX3_fitting_12 (by decide) c6 ?_
      refine V_iconst C (w := 3) dX3_fitting_15 (by decide) ?_
      refine V_goto C 20 dX3_fitting_16 (by decide) ?_
      exact X3_fitting_b20_ok C hd h
    · rw [if_neg c6] at h
      refine V_icmp_neT C 19 dX3_fitting_12 (by decide) c6 ?_
      refine V_iconst C (w := 4) dX3_fitting_19 (by decide) ?_
      exact X3_fitting_b20_ok C hd h
