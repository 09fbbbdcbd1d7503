def X1_begin (σ : St) : Option St := some (up (up σ 27 8 0) 27 9 0)
set_option maxRecDepth 100000 in
set_option maxHeartbeats 4000000 in
theorem X1_begin_ok {σ : St} {x : St} (h : X1_begin σ = some x) : Ct shX (1) yX1_begin cX1_begin 1 none (fun G => [.ref (G.2.1 27)]) σ (fun G => none) x := by
  refine Ct.of mw_X1_begin.1 (by decide +kernel) (fun G => Nat.le_of_ble_eq_true rfl) (fun G p l e d s m args below meth c A hd C => ?_)
  refine (?_ : Vw shX G p l e d s m args below meth c 1 A σ 0 [(0, .ref (G.2.1 27))] [] (none) x)
  unfold X1_begin at h
  refine V_aload_n C 0 dX1_begin_0 rfl rfl ?_
  refine V_iconst C (w := 0) dX1_begin_1 (by decide) ?_
  refine fp1_35 C oX_27 dX1_begin_2 ?_
  refine V_aload_n C 0 dX1_begin_5 rfl rfl ?_
  refine V_iconst C (w := 0) dX1_begin_6 (by decide) ?_
  refine fp1_39 C oX_27 dX1_begin_7 ?_
  obtain rfl := Option.some.inj h
  exact V_vret C rfl dX1_begin_10
def X5_has (l0 : Nat) (l1 : Int32) (σ : St) : Option Int32 := if l1 < 0 then (some 0) else (if isO shX l0 5 10 then (if (σ.1 l0 5) ≤ l1 then (some 0) else (if 5 ≤ l1 then (some 0) else (some 1))) else none)
set_option maxRecDepth 100000 in
set_option maxHeartbeats 4000000 in
theorem X5_has_ok {l0 : Nat} {l1 : Int32} {σ : St} {x : Int32} (h : X5_has l0 l1 σ = some x) : Ct shX (1) yX5_has cX5_has 2 (some FieldType.boolean) (fun G => [.ref (G.2.1 l0), .int l1]) σ (fun G => some (.int x)) σ := by
  refine Ct.of mw_X5_has.1 (by decide +kernel) (fun G => Nat.le_of_ble_eq_true rfl) (fun G p l e d s m args below meth c A hd C => ?_)
  refine (?_ : Vw shX G p l e d s m args below meth c 2 A σ 0 [(0, .ref (G.2.1 l0)), (1, .int l1)] [] (some (.int x)) σ)
  unfold X5_has at h
  refine V_iload_n C 1 dX5_has_0 rfl rfl ?_
  by_cases c1 : l1 < 0
  · rw [if_pos c1] at h
    refine V_if_ltT C 21 dX5_has_1 (by decide) c1 ?_
    refine V_iconst C (w := 0) dX5_has_21 (by decide) ?_
    obtain rfl := Option.some.inj h
    exact V_iret C rfl (nz (Or.inl rfl)) dX5_has_22
  · rw [if_neg c1] at h
    refine V_if_ltF C 21 dX5_has_1 (by decide) c1 ?_
    refine V_iload_n C 1 dX5_has_4 rfl rfl ?_
    refine V_aload_n C 0 dX5_has_5 rfl rfl ?_
    have g2 : isO shX l0 5 10 := Decidable.byContradiction (fun g9 => by rw [if_neg g9] at h; cases h)
    rw [if_pos g2] at h
    refine fg5_27 C g2 dX5_has_6 ?_
    by_cases c3 : (σ.1 l0 5) ≤ l1
    · rw [if_pos c3] at h
      refine V_icmp_geT C 21 dX5_has_9 (by decide) c3 ?_
      refine V_iconst C (w := 0) dX5_has_21 (by decide) ?_
      obtain rfl := Option.some.inj h
      exact V_iret C rfl (nz (Or.inl rfl)) dX5_has_22
    · rw [if_neg c3] at h
      refine V_icmp_geF C 21 dX5_has_9 (by decide) c3 ?_
      refine V_iload_n C 1 dX5_has_12 rfl rfl ?_
      refine V_iconst C (w := 5) dX5_has_13 (by decide) ?_
      by_cases c4 : 5 ≤ l1
      · rw [if_pos c4] at h
        refine V_icmp_geT C 21 dX5_has_14 (by decide) c4 ?_
        refine V_iconst C (w := 0) dX5_has_21 (by decide) ?_
        obtain rfl := Option.some.inj h
        exact V_iret C rfl (nz (Or.inl rfl)) dX5_has_22
      · rw [if_neg c4] at h
        refine V_icmp_geF C 21 dX5_has_14 (by decide) c4 ?_
        refine V_iconst C (w := 1) dX5_has_17 (by decide) ?_
        refine V_goto C 22 dX5_has_18 (by decide) ?_
        obtain rfl := Option.some.inj h
        exact V_iret C rfl (nz (Or.inr rfl)) dX5_has_22
def X1_warmthBehind (l1 : Int32) (σ : St) : Option Int32 := if l1 < 0 then (some (-1)) else (if (σ.1 27 8) ≤ l1 then (some (-1)) else (if 5 ≤ l1 then (some (-1)) else (if ob l1 5 then none else (some (σ.1 31 (l1).toNatClampNeg)))))
set_option maxRecDepth 100000 in
set_option maxHeartbeats 4000000 in
theorem X1_warmthBehind_ok {l1 : Int32} {σ : St} {x : Int32} (h : X1_warmthBehind l1 σ = some x) : Ct shX (1) yX1_warmthBehind cX1_warmthBehind 2 (some FieldType.int) (fun G => [.ref (G.2.1 27), .int l1]) σ (fun G => some (.int x)) σ := by
  refine Ct.of mw_X1_warmthBehind.1 (by decide +kernel) (fun G => Nat.le_of_ble_eq_true rfl) (fun G p l e d s m args below meth c A hd C => ?_)
  refine (?_ : Vw shX G p l e d s m args below meth c 2 A σ 0 [(0, .ref (G.2.1 27)), (1, .int l1)] [] (some (.int x)) σ)
  unfold X1_warmthBehind at h
  refine V_iload_n C 1 dX1_warmthBehind_0 rfl rfl ?_
  by_cases c1 : l1 < 0
  · rw [if_pos c1] at h
    refine V_if_ltT C 30 dX1_warmthBehind_1 (by decide) c1 ?_
    refine V_iconst C (w := (-1)) dX1_warmthBehind_30 (by decide) ?_
    obtain rfl := Option.some.inj h
    exact V_iret C rfl rfl dX1_warmthBehind_31
  · rw [if_neg c1] at h
    refine V_if_ltF C 30 dX1_warmthBehind_1 (by decide) c1 ?_
    refine V_iload_n C 1 dX1_warmthBehind_4 rfl rfl ?_
    refine V_aload_n C 0 dX1_warmthBehind_5 rfl rfl ?_
    refine fg1_35 C oX_27 dX1_warmthBehind_6 ?_
    by_cases c2 : (σ.1 27 8) ≤ l1
    · rw [if_pos c2] at h
      refine V_icmp_geT C 30 dX1_warmthBehind_9 (by decide) c2 ?_
      refine V_iconst C (w := (-1)) dX1_warmthBehind_30 (by decide) ?_
      obtain rfl := Option.some.inj h
      exact V_iret C rfl rfl dX1_warmthBehind_31
    · rw [if_neg c2] at h
      refine V_icmp_geF C 30 dX1_warmthBehind_9 (by decide) c2 ?_
      refine V_iload_n C 1 dX1_warmthBehind_12 rfl rfl ?_
      refine V_aload_n C 0 dX1_warmthBehind_13 rfl rfl ?_
      refine fg1_25 (r := 31) C oX_27 rfl dX1_warmthBehind_14 ?_
      refine V_alenI C oX_31.1 oX_31.2.1 (w := 5) rfl dX1_warmthBehind_17 ?_
      by_cases c3 : 5 ≤ l1
      · rw [if_pos c3] at h
        refine V_icmp_geT C 30 dX1_warmthBehind_18 (by decide) c3 ?_
        refine V_iconst C (w := (-1)) dX1_warmthBehind_30 (by decide) ?_
        obtain rfl := Option.some.inj h
        exact V_iret C rfl rfl dX1_warmthBehind_31
      · rw [if_neg c3] at h
        refine V_icmp_geF C 30 dX1_warmthBehind_18 (by decide) c3 ?_
        refine V_aload_n C 0 dX1_warmthBehind_21 rfl rfl ?_
        refine fg1_25 (r := 31) C oX_27 rfl dX1_warmthBehind_22 ?_
        refine V_iload_n C 1 dX1_warmthBehind_25 rfl rfl ?_
        have g4 : ¬ (ob l1 5) := fun g9 => by rw [if_pos g9] at h; cases h
        rw [if_neg g4] at h
        refine V_ialdO C oX_31 g4 dX1_warmthBehind_26 ?_
        refine V_goto C 31 dX1_warmthBehind_27 (by decide) ?_
        obtain rfl := Option.some.inj h
        exact V_iret C rfl rfl dX1_warmthBehind_31
def X1_warmthNow (σ : St) : Option Int32 := if (σ.1 27 8) ≤ 0 then (some (σ.1 1 0)) else ((X1_warmthBehind ((σ.1 27 8) - 1) σ).bind (fun x14 => some x14))
set_option maxRecDepth 100000 in
set_option maxHeartbeats 4000000 in
theorem X1_warmthNow_ok {σ : St} {x : Int32} (h : X1_warmthNow σ = some x) : Ct shX (2) yX1_warmthNow cX1_warmthNow 1 (some FieldType.int) (fun G => [.ref (G.2.1 27)]) σ (fun G => some (.int x)) σ := by
  refine Ct.of mw_X1_warmthNow.1 (by decide +kernel) (fun G => Nat.le_of_ble_eq_true rfl) (fun G p l e d s m args below meth c A hd C => ?_)
  refine (?_ : Vw shX G p l e d s m args below meth c 1 A σ 0 [(0, .ref (G.2.1 27))] [] (some (.int x)) σ)
  unfold X1_warmthNow at h
  refine V_aload_n C 0 dX1_warmthNow_0 rfl rfl ?_
  refine fg1_35 C oX_27 dX1_warmthNow_1 ?_
  by_cases c1 : (σ.1 27 8) ≤ 0
  · rw [if_pos c1] at h
    refine V_if_leT C 20 dX1_warmthNow_4 (by decide) c1 ?_
    refine V_aload_n C 0 dX1_warmthNow_20 rfl rfl ?_
    refine fg1_42 (r := 1) C oX_27 rfl dX1_warmthNow_21 ?_
    refine fg1_157 C oX_1 dX1_warmthNow_24 ?_
    obtain rfl := Option.some.inj h
    exact V_iret C rfl rfl dX1_warmthNow_27
  · rw [if_neg c1] at h
    refine V_if_leF C 20 dX1_warmthNow_4 (by decide) c1 ?_
    refine V_aload_n C 0 dX1_warmthNow_7 rfl rfl ?_
    refine V_aload_n C 0 dX1_warmthNow_8 rfl rfl ?_
    refine fg1_35 C oX_27 dX1_warmthNow_9 ?_
    refine V_iconst C (w := 1) dX1_warmthNow_12 (by decide) ?_
    refine V_isub C dX1_warmthNow_13 ?_
    obtain ⟨x14, h14, h⟩ := Option.bind_eq_some_iff.mp h
    refine V_callVi (As := [.int ((σ.1 27 8) - 1)]) C (X1_warmthBehind_ok h14) mw_X1_warmthBehind.1 mw_X1_warmthBehind.2.1 mw_X1_warmthBehind.2.2 q1_154 oX_27.1 oX_27.2.1 (by decide) rfl rfl (by omega) rfl rfl rfl (Nat.le_of_ble_eq_true rfl) dX1_warmthNow_14 ?_
    refine V_goto C 27 dX1_warmthNow_17 (by decide) ?_
    obtain rfl := Option.some.inj h
    exact V_iret C rfl rfl dX1_warmthNow_27
def X1_digits_b4 : Nat → Int32 → Int32 → St → Option Int32
  | 0, _, _, _ => none
  | F + 1, l1, l2, σ => if (σ.1 27 8) ≤ l2 then (some l1) else (if 5 ≤ l2 then (some l1) else (if ob l2 5 then none else (X1_digits_b4 F (((l1 * 10) + (σ.1 29 (l2).toNatClampNeg)) + 1) (l2 + 1) σ)))
set_option maxRecDepth 100000 in
set_option maxHeartbeats 4000000 in
theorem X1_digits_b4_ok {G : Gx} {p : Program} {l : Launch} {e : Env} {d : Nat} {s : State} {m : MethodId} {args : Array Value} {below : List Frame} {meth : Method} {c : Code} {A : Nat → Prop} (C : OK shX G p s m args meth c RX1 cX1_digits 3 (some FieldType.int) A) (hd : 1 ≤ d) : ∀ (F : Nat) {l1 : Int32} {l2 : Int32} {σ : St} {x : Int32} (h : X1_digits_b4 F l1 l2 σ = some x), Vw shX G p l e d s m args below meth c 3 A σ 4 [(0, .ref (G.2.1 27)), (1, .int l1), (2, .int l2)] [] (some (.int x)) σ := by
  intro F
  induction F with
  | zero =>
    intro l1 l2 σ x h
    rw [X1_digits_b4] at h
    cases h
  | succ F ih =>
    intro l1 l2 σ x h
    rw [X1_digits_b4] at h
    refine V_iload_n C 2 dX1_digits_4 rfl rfl ?_
    refine V_aload_n C 0 dX1_digits_5 rfl rfl ?_
    refine fg1_35 C oX_27 dX1_digits_6 ?_
    by_cases c1 : (σ.1 27 8) ≤ l2
    · rw [if_pos c1] at h
      refine V_icmp_geT C 41 dX1_digits_9 (by decide) c1 ?_
      refine V_iload_n C 1 dX1_digits_41 rfl rfl ?_
      obtain rfl := Option.some.inj h
      exact V_iret C rfl rfl dX1_digits_42
    · rw [if_neg c1] at h
      refine V_icmp_geF C 41 dX1_digits_9 (by decide) c1 ?_
      refine V_iload_n C 2 dX1_digits_12 rfl rfl ?_
      refine V_aload_n C 0 dX1_digits_13 rfl rfl ?_
      refine fg1_18 (r := 29) C oX_27 rfl dX1_digits_14 ?_
      refine V_alenI C oX_29.1 oX_29.2.1 (w := 5) rfl dX1_digits_17 ?_
      by_cases c2 : 5 ≤ l2
      · rw [if_pos c2] at h
        refine V_icmp_geT C 41 dX1_digits_18 (by decide) c2 ?_
        refine V_iload_n C 1 dX1_digits_41 rfl rfl ?_
        obtain rfl := Option.some.inj h
        exact V_iret C rfl rfl dX1_digits_42
      · rw [if_neg c2] at h
        refine V_icmp_geF C 41 dX1_digits_18 (by decide) c2 ?_
        refine V_iload_n C 1 dX1_digits_21 rfl rfl ?_
        refine V_bipush C (w := 10) dX1_digits_22 (by decide) ?_
        refine V_imul C dX1_digits_24 ?_
        refine V_aload_n C 0 dX1_digits_25 rfl rfl ?_
        refine fg1_18 (r := 29) C oX_27 rfl dX1_digits_26 ?_
        refine V_iload_n C 2 dX1_digits_29 rfl rfl ?_
        have g3 : ¬ (ob l2 5) := fun g9 => by rw [if_pos g9] at h; cases h
        rw [if_neg g3] at h
        refine V_ialdO C oX_29 g3 dX1_digits_30 ?_
        refine V_iadd C dX1_digits_31 ?_
        refine V_iconst C (w := 1) dX1_digits_32 (by decide) ?_
        refine V_iadd C dX1_digits_33 ?_
        refine V_istore_n C (lv' := [(1, .int (((l1 * 10) + (σ.1 29 (l2).toNatClampNeg)) + 1)), (0, .ref (G.2.1 27)), (2, .int l2)]) dX1_digits_34 rfl (by decide) rfl ?_
        refine V_iinc C (w := (l2 + 1)) (lv' := [(2, .int (l2 + 1)), (1, .int (((l1 * 10) + (σ.1 29 (l2).toNatClampNeg)) + 1)), (0, .ref (G.2.1 27))]) 2 dX1_digits_35 rfl (congrArg (l2 + ·) (show Int32.ofInt 1 = 1 by decide)) (by decide) rfl ?_
        refine V_goto C 4 dX1_digits_38 (by decide) ?_
        refine V_sub (lv' := [(0, .ref (G.2.1 27)), (1, .int (((l1 * 10) + (σ.1 29 (l2).toNatClampNeg)) + 1)), (2, .int (l2 + 1))]) [2, 1, 0] rfl ?_
        exact ih h
def X1_digits (σ : St) : Option Int32 := X1_digits_b4 FU 0 0 σ
set_option maxRecDepth 100000 in
set_option maxHeartbeats 4000000 in
theorem X1_digits_ok {σ : St} {x : Int32} (h : X1_digits σ = some x) : Ct shX (1) yX1_digits cX1_digits 3 (some FieldType.int) (fun G => [.ref (G.2.1 27)]) σ (fun G => some (.int x)) σ := by
  refine Ct.of mw_X1_digits.1 (by decide +kernel) (fun G => Nat.le_of_ble_eq_true rfl) (fun G p l e d s m args below meth c A hd C => ?_)
  refine (?_ : Vw shX G p l e d s m args below meth c 3 A σ 0 [(0, .ref (G.2.1 27))] [] (some (.int x)) σ)
  unfold X1_digits at h
  refine V_iconst C (w := 0) dX1_digits_0 (by decide) ?_
  refine V_istore_n C (lv' := [(1, .int 0), (0, .ref (G.2.1 27))]) dX1_digits_1 rfl (by decide) rfl ?_
  refine V_iconst C (w := 0) dX1_digits_2 (by decide) ?_
  refine V_istore_n C (lv' := [(2, .int 0), (1, .int 0), (0, .ref (G.2.1 27))]) dX1_digits_3 rfl (by decide) rfl ?_
  refine V_sub (lv' := [(0, .ref (G.2.1 27)), (1, .int 0), (2, .int 0)]) [2, 1, 0] rfl ?_
  exact X1_digits_b4_ok C hd FU h
def X1_hasCome (l1 : Int32) (σ : St) : Option Int32 := (X5_has 1 l1 σ).bind (fun x5 => if x5 = 0 then (some 0) else (if (((σ.1 27 9) >>> (l1 &&& 31)) &&& 1) = 0 then (some 0) else (some 1)))
set_option maxRecDepth 100000 in
set_option maxHeartbeats 4000000 in
theorem X1_hasCome_ok {l1 : Int32} {σ : St} {x : Int32} (h : X1_hasCome l1 σ = some x) : Ct shX (2) yX1_hasCome cX1_hasCome 2 (some FieldType.boolean) (fun G => [.ref (G.2.1 27), .int l1]) σ (fun G => some (.int x)) σ := by
  refine Ct.of mw_X1_hasCome.1 (by decide +kernel) (fun G => Nat.le_of_ble_eq_true rfl) (fun G p l e d s m args below meth c A hd C => ?_)
  refine (?_ : Vw shX G p l e d s m args below meth c 2 A σ 0 [(0, .ref (G.2.1 27)), (1, .int l1)] [] (some (.int x)) σ)
  unfold X1_hasCome at h
  refine V_aload_n C 0 dX1_hasCome_0 rfl rfl ?_
  refine fg1_42 (r := 1) C oX_27 rfl dX1_hasCome_1 ?_
  refine V_iload_n C 1 dX1_hasCome_4 rfl rfl ?_
  obtain ⟨x5, h5, h⟩ := Option.bind_eq_some_iff.mp h
  refine V_callVi (As := [.int l1]) C (X5_has_ok h5) mw_X5_has.1 mw_X5_has.2.1 mw_X5_has.2.2 q1_50 oX_1.1 oX_1.2.1 (by decide) rfl rfl (by omega) rfl rfl rfl (Nat.le_of_ble_eq_true rfl) dX1_hasCome_5 ?_
  by_cases c1 : x5 = 0
  · rw [if_pos c1] at h
    refine V_if_eqT C 26 dX1_hasCome_8 (by decide) c1 ?_
    refine V_iconst C (w := 0) dX1_hasCome_26 (by decide) ?_
    obtain rfl := Option.some.inj h
    exact V_iret C rfl (nz (Or.inl rfl)) dX1_hasCome_27
  · rw [if_neg c1] at h
    refine V_if_eqF C 26 dX1_hasCome_8 (by decide) c1 ?_
    refine V_aload_n C 0 dX1_hasCome_11 rfl rfl ?_
    refine fg1_39 C oX_27 dX1_hasCome_12 ?_
    refine V_iload_n C 1 dX1_hasCome_15 rfl rfl ?_
    refine V_ishr C dX1_hasCome_16 ?_
    refine V_iconst C (w := 1) dX1_hasCome_17 (by decide) ?_
    refine V_iand C dX1_hasCome_18 ?_
    by_cases c2 : (((σ.1 27 9) >>> (l1 &&& 31)) &&& 1) = 0
    · rw [if_pos c2] at h
      refine V_if_eqT C 26 dX1_hasCome_19 (by decide) c2 ?_
      refine V_iconst C (w := 0) dX1_hasCome_26 (by decide) ?_
      obtain rfl := Option.some.inj h
      exact V_iret C rfl (nz (Or.inl rfl)) dX1_hasCome_27
    · rw [if_neg c2] at h
      refine V_if_eqF C 26 dX1_hasCome_19 (by decide) c2 ?_
      refine V_iconst C (w := 1) dX1_hasCome_22 (by decide) ?_
      refine V_goto C 27 dX1_hasCome_23 (by decide) ?_
      obtain rfl := Option.some.inj h
      exact V_iret C rfl (nz (Or.inr rfl)) dX1_hasCome_27
def X1_hear_b149 : Nat → Int32 → St → Option St
  | 0, _, _ => none
  | F + 1, l2, σ => if (σ.1 27 8) ≤ l2 then (some σ) else (if 5 ≤ l2 then (some σ) else (if ob l2 5 then none else (if ((up σ 28 1 (σ.1 30 (l2).toNatClampNeg)).1 28 1) = ((up σ 28 1 (σ.1 30 (l2).toNatClampNeg)).1 28 0) then (X1_hear_b149 F (l2 + 1) (up (up σ 28 1 (σ.1 30 (l2).toNatClampNeg)) 28 4 (((up σ 28 1 (σ.1 30 (l2).toNatClampNeg)).1 28 4) + 1))) else (X1_hear_b149 F (l2 + 1) (up σ 28 1 (σ.1 30 (l2).toNatClampNeg))))))
set_option maxRecDepth 100000 in
set_option maxHeartbeats 4000000 in
theorem X1_hear_b149_ok {G : Gx} {p : Program} {l : Launch} {e : Env} {d : Nat} {s : State} {m : MethodId} {args : Array Value} {below : List Frame} {meth : Method} {c : Code} {A : Nat → Prop} (C : OK shX G p s m args meth c RX1 cX1_hear 3 none A) (hd : 3 ≤ d) : ∀ (F : Nat) {l2 : Int32} {σ : St} {x : St} (h : X1_hear_b149 F l2 σ = some x), Vw shX G p l e d s m args below meth c 3 A σ 149 [(0, .ref (G.2.1 27)), (2, .int l2)] [] (none) x := by
  intro F
  induction F with
  | zero =>
    intro l2 σ x h
    rw [X1_hear_b149] at h
    cases h
  | succ F ih =>
    intro l2 σ x h
    rw [X1_hear_b149] at h
    refine V_iload_n C 1 dX1_hear_149 rfl rfl ?_
    refine V_aload_n C 0 dX1_hear_150 rfl rfl ?_
    refine fg1_35 C oX_27 dX1_hear_151 ?_
    by_cases c1 : (σ.1 27 8) ≤ l2
    · rw [if_pos c1] at h
      refine V_icmp_geT C 211 dX1_hear_154 (by decide) c1 ?_
      obtain rfl := Option.some.inj h
      exact V_vret C rfl dX1_hear_211
    · rw [if_neg c1] at h
      refine V_icmp_geF C 211 dX1_hear_154 (by decide) c1 ?_
      refine V_iload_n C 1 dX1_hear_157 rfl rfl ?_
      refine V_iconst C (w := 5) dX1_hear_158 (by decide) ?_
      by_cases c2 : 5 ≤ l2
      · rw [if_pos c2] at h
        refine V_icmp_geT C 211 dX1_hear_159 (by decide) c2 ?_
        obtain rfl := Option.some.inj h
        exact V_vret C rfl dX1_hear_211
      · rw [if_neg c2] at h
        refine V_icmp_geF C 211 dX1_hear_159 (by decide) c2 ?_
        refine V_aload_n C 0 dX1_hear_162 rfl rfl ?_
        refine fg1_12 (r := 28) C oX_27 rfl dX1_hear_163 ?_
        refine V_aload_n C 0 dX1_hear_166 rfl rfl ?_
        refine fg1_22 (r := 30) C oX_27 rfl dX1_hear_167 ?_
        refine V_iload_n C 1 dX1_hear_170 rfl rfl ?_
        have g3 : ¬ (ob l2 5) := fun g9 => by rw [if_pos g9] at h; cases h
        rw [if_neg g3] at h
        refine V_ialdO C oX_30 g3 dX1_hear_171 ?_
        refine fp1_144 C oX_28 dX1_hear_172 ?_
        refine V_aload_n C 0 dX1_hear_175 rfl rfl ?_
        refine fg1_12 (r := 28) C oX_27 rfl dX1_hear_176 ?_
        refine fg1_144 C oX_28 dX1_hear_179 ?_
        refine V_aload_n C 0 dX1_hear_182 rfl rfl ?_
        refine fg1_12 (r := 28) C oX_27 rfl dX1_hear_183 ?_
        refine fg1_89 C oX_28 dX1_hear_186 ?_
        by_cases c4 : ((up σ 28 1 (σ.1 30 (l2).toNatClampNeg)).1 28 1) = ((up σ 28 1 (σ.1 30 (l2).toNatClampNeg)).1 28 0)
        · rw [if_pos c4] at h
          refine V_icmp_neF C 205 dX1_hear_189 (by decide) c4 ?_
          refine V_aload_n C 0 dX1_hear_192 rfl rfl ?_
          refine fg1_12 (r := 28) C oX_27 rfl dX1_hear_193 ?_
          refine V_dup C dX1_hear_196 rfl ?_
          refine fg1_147 C oX_28 dX1_hear_197 ?_
          refine V_iconst C (w := 1) dX1_hear_200 (by decide) ?_
          refine V_iadd C dX1_hear_201 ?_
          refine fp1_147 C oX_28 dX1_hear_202 ?_
          refine V_iinc C (w := (l2 + 1)) (lv' := [(2, .int (l2 + 1)), (0, .ref (G.2.1 27))]) 1 dX1_hear_205 rfl (congrArg (l2 + ·) (show Int32.ofInt 1 = 1 by decide)) (by decide) rfl ?_
          refine V_goto C 149 dX1_hear_208 (by decide) ?_
          refine V_sub (lv' := [(0, .ref (G.2.1 27)), (2, .int (l2 + 1))]) [1, 0] rfl ?_
          exact ih h
        · rw [if_neg c4] at h
          refine V_icmp_neT C 205 dX1_hear_189 (by decide) c4 ?_
          refine V_iinc C (w := (l2 + 1)) (lv' := [(2, .int (l2 + 1)), (0, .ref (G.2.1 27))]) 1 dX1_hear_205 rfl (congrArg (l2 + ·) (show Int32.ofInt 1 = 1 by decide)) (by decide) rfl ?_
          refine V_goto C 149 dX1_hear_208 (by decide) ?_
          refine V_sub (lv' := [(0, .ref (G.2.1 27)), (2, .int (l2 + 1))]) [1, 0] rfl ?_
          exact ih h
def X1_hear_b105 (s0 : Int32) (σ : St) : Option St := if s0 = 0 ∨ s0 = 1 then ((X1_warmthNow (up σ 28 8 s0)).bind (fun x113 => X1_hear_b149 FU 0 (up (up (up (up (up σ 28 8 s0) 28 2 x113) 28 5 ((up (up σ 28 8 s0) 28 2 x113).1 27 8)) 28 1 8) 28 4 0))) else none
set_option maxRecDepth 100000 in
set_option maxHeartbeats 4000000 in
theorem X1_hear_b105_ok {G : Gx} {p : Program} {l : Launch} {e : Env} {d : Nat} {s : State} {m : MethodId} {args : Array Value} {below : List Frame} {meth : Method} {c : Code} {A : Nat → Prop} (C : OK shX G p s m args meth c RX1 cX1_hear 3 none A) (hd : 3 ≤ d) {s0 : Int32} {σ : St} {x : St} (h : X1_hear_b105 s0 σ = some x) : Vw shX G p l e d s m args below meth c 3 A σ 105 [(0, .ref (G.2.1 27))] [.int s0, .ref (G.2.1 28)] (none) x := by
  unfold X1_hear_b105 at h
  have g5 : s0 = 0 ∨ s0 = 1 := Decidable.byContradiction (fun g9 => by rw [if_neg g9] at h; cases h)
  rw [if_pos g5] at h
  refine fp1_135 C oX_28 g5 dX1_hear_105 ?_
  refine V_aload_n C 0 dX1_hear_108 rfl rfl ?_
  refine fg1_12 (r := 28) C oX_27 rfl dX1_hear_109 ?_
  refine V_aload_n C 0 dX1_hear_112 rfl rfl ?_
  obtain ⟨x113, h113, h⟩ := Option.bind_eq_some_iff.mp h
  refine V_callVi (As := []) C (X1_warmthNow_ok h113) mw_X1_warmthNow.1 mw_X1_warmthNow.2.1 mw_X1_warmthNow.2.2 q1_138 oX_27.1 oX_27.2.1 (by decide) rfl rfl (by omega) rfl rfl rfl (Nat.le_of_ble_eq_true rfl) dX1_hear_113 ?_
  refine fp1_70 C oX_28 dX1_hear_116 ?_
  refine V_aload_n C 0 dX1_hear_119 rfl rfl ?_
  refine fg1_12 (r := 28) C oX_27 rfl dX1_hear_120 ?_
  refine V_aload_n C 0 dX1_hear_123 rfl rfl ?_
  refine fg1_35 C oX_27 dX1_hear_124 ?_
  refine fp1_141 C oX_28 dX1_hear_127 ?_
  refine V_aload_n C 0 dX1_hear_130 rfl rfl ?_
  refine fg1_12 (r := 28) C oX_27 rfl dX1_hear_131 ?_
  refine V_bipush C (w := 8) dX1_hear_134 (by decide) ?_
  refine fp1_144 C oX_28 dX1_hear_136 ?_
  refine V_aload_n C 0 dX1_hear_139 rfl rfl ?_
  refine fg1_12 (r := 28) C oX_27 rfl dX1_hear_140 ?_
  refine V_iconst C (w := 0) dX1_hear_143 (by decide) ?_
  refine fp1_147 C oX_28 dX1_hear_144 ?_
  refine V_iconst C (w := 0) dX1_hear_147 (by decide) ?_
  refine V_istore_n C (lv' := [(2, .int 0), (0, .ref (G.2.1 27))]) dX1_hear_148 rfl (by decide) rfl ?_
  refine V_sub (lv' := [(0, .ref (G.2.1 27)), (2, .int 0)]) [1, 0] rfl ?_
  exact X1_hear_b149_ok C hd FU h
def X1_hear_b81 (s0 : Int32) (σ : St) : Option St := if s0 = 0 ∨ s0 = 1 then (if (((up σ 28 7 s0).1 1 2) - ((up σ 28 7 s0).1 1 2) / 2 * 2) = 0 then (X1_hear_b105 0 (up σ 28 7 s0)) else (X1_hear_b105 1 (up σ 28 7 s0))) else none
set_option maxRecDepth 100000 in
set_option maxHeartbeats 4000000 in
theorem X1_hear_b81_ok {G : Gx} {p : Program} {l : Launch} {e : Env} {d : Nat} {s : State} {m : MethodId} {args : Array Value} {below : List Frame} {meth : Method} {c : Code} {A : Nat → Prop} (C : OK shX G p s m args meth c RX1 cX1_hear 3 none A) (hd : 3 ≤ d) {s0 : Int32} {σ : St} {x : St} (h : X1_hear_b81 s0 σ = some x) : Vw shX G p l e d s m args below meth c 3 A σ 81 [(0, .ref (G.2.1 27))] [.int s0, .ref (G.2.1 28)] (none) x := by
  unfold X1_hear_b81 at h
  have g6 : s0 = 0 ∨ s0 = 1 := Decidable.byContradiction (fun g9 => by rw [if_neg g9] at h; cases h)
  rw [if_pos g6] at h
  refine fp1_128 C oX_28 g6 dX1_hear_81 ?_
  refine V_aload_n C 0 dX1_hear_84 rfl rfl ?_
  refine fg1_12 (r := 28) C oX_27 rfl dX1_hear_85 ?_
  refine V_aload_n C 0 dX1_hear_88 rfl rfl ?_
  refine fg1_42 (r := 1) C oX_27 rfl dX1_hear_89 ?_
  refine fg1_132 C oX_1 dX1_hear_92 ?_
  refine V_iconst C (w := 2) dX1_hear_95 (by decide) ?_
  refine V_irem C dX1_hear_96 (by decide) ?_
  by_cases c7 : (((up σ 28 7 s0).1 1 2) - ((up σ 28 7 s0).1 1 2) / 2 * 2) = 0
  · rw [if_pos c7] at h
    refine V_if_eqT C 104 dX1_hear_97 (by decide) c7 ?_
    refine V_iconst C (w := 0) dX1_hear_104 (by decide) ?_
    exact X1_hear_b105_ok C hd h
  · rw [if_neg c7] at h
    refine V_if_eqF C 104 dX1_hear_97 (by decide) c7 ?_
    refine V_iconst C (w := 1) dX1_hear_100 (by decide) ?_
    refine V_goto C 105 dX1_hear_101 (by decide) ?_
    exact X1_hear_b105_ok C hd h
def X1_hear (l1 : Int32) (σ : St) : Option St := (X5_has 1 l1 σ).bind (fun x5 => if x5 = 0 then (some σ) else (if ob l1 5 then none else (if ob l1 5 then none else (if ob l1 5 then none else (if ob l1 5 then none else (if ((up (up (up σ 28 6 (σ.1 2 (l1).toNatClampNeg)) 28 3 ((up σ 28 6 (σ.1 2 (l1).toNatClampNeg)).1 3 (l1).toNatClampNeg)) 28 0 ((up (up σ 28 6 (σ.1 2 (l1).toNatClampNeg)) 28 3 ((up σ 28 6 (σ.1 2 (l1).toNatClampNeg)).1 3 (l1).toNatClampNeg)).1 4 (l1).toNatClampNeg)).1 5 (l1).toNatClampNeg) = 0 then (X1_hear_b81 0 (up (up (up σ 28 6 (σ.1 2 (l1).toNatClampNeg)) 28 3 ((up σ 28 6 (σ.1 2 (l1).toNatClampNeg)).1 3 (l1).toNatClampNeg)) 28 0 ((up (up σ 28 6 (σ.1 2 (l1).toNatClampNeg)) 28 3 ((up σ 28 6 (σ.1 2 (l1).toNatClampNeg)).1 3 (l1).toNatClampNeg)).1 4 (l1).toNatClampNeg))) else (X1_hear_b81 1 (up (up (up σ 28 6 (σ.1 2 (l1).toNatClampNeg)) 28 3 ((up σ 28 6 (σ.1 2 (l1).toNatClampNeg)).1 3 (l1).toNatClampNeg)) 28 0 ((up (up σ 28 6 (σ.1 2 (l1).toNatClampNeg)) 28 3 ((up σ 28 6 (σ.1 2 (l1).toNatClampNeg)).1 3 (l1).toNatClampNeg)).1 4 (l1).toNatClampNeg)))))))))
set_option maxRecDepth 100000 in
set_option maxHeartbeats 4000000 in
theorem X1_hear_ok {l1 : Int32} {σ : St} {x : St} (h : X1_hear l1 σ = some x) : Ct shX (3) yX1_hear cX1_hear 3 none (fun G => [.ref (G.2.1 27), .int l1]) σ (fun G => none) x := by
  refine Ct.of mw_X1_hear.1 (by decide +kernel) (fun G => Nat.le_of_ble_eq_true rfl) (fun G p l e d s m args below meth c A hd C => ?_)
  refine (?_ : Vw shX G p l e d s m args below meth c 3 A σ 0 [(0, .ref (G.2.1 27)), (1, .int l1)] [] (none) x)
  unfold X1_hear at h
  refine V_aload_n C 0 dX1_hear_0 rfl rfl ?_
  refine fg1_42 (r := 1) C oX_27 rfl dX1_hear_1 ?_
  refine V_iload_n C 1 dX1_hear_4 rfl rfl ?_
  obtain ⟨x5, h5, h⟩ := Option.bind_eq_some_iff.mp h
  refine V_callVi (As := [.int l1]) C (X5_has_ok h5) mw_X5_has.1 mw_X5_has.2.1 mw_X5_has.2.2 q1_50 oX_1.1 oX_1.2.1 (by decide) rfl rfl (by omega) rfl rfl rfl (Nat.le_of_ble_eq_true rfl) dX1_hear_5 ?_
  by_cases c8 : x5 = 0
  · rw [if_pos c8] at h
    refine V_if_neF C 12 dX1_hear_8 (by decide) c8 ?_
    obtain rfl := Option.some.inj h
    exact V_vret C rfl dX1_hear_11
  · rw [if_neg c8] at h
    refine V_if_neT C 12 dX1_hear_8 (by decide) c8 ?_
    refine V_aload_n C 0 dX1_hear_12 rfl rfl ?_
    refine fg1_12 (r := 28) C oX_27 rfl dX1_hear_13 ?_
    refine V_aload_n C 0 dX1_hear_16 rfl rfl ?_
    refine fg1_42 (r := 1) C oX_27 rfl dX1_hear_17 ?_
    refine fg1_110 (r := 2) C oX_1 rfl dX1_hear_20 ?_
    refine V_iload_n C 1 dX1_hear_23 rfl rfl ?_
    have g9 : ¬ (ob l1 5) := fun g9 => by rw [if_pos g9] at h; cases h
    rw [if_neg g9] at h
    refine V_ialdO C oX_2 g9 dX1_hear_24 ?_
    refine fp1_113 C oX_28 dX1_hear_25 ?_
    refine V_aload_n C 0 dX1_hear_28 rfl rfl ?_
    refine fg1_12 (r := 28) C oX_27 rfl dX1_hear_29 ?_
    refine V_aload_n C 0 dX1_hear_32 rfl rfl ?_
    refine fg1_42 (r := 1) C oX_27 rfl dX1_hear_33 ?_
    refine fg1_116 (r := 3) C oX_1 rfl dX1_hear_36 ?_
    refine V_iload_n C 1 dX1_hear_39 rfl rfl ?_
    have g10 : ¬ (ob l1 5) := fun g9 => by rw [if_pos g9] at h; cases h
    rw [if_neg g10] at h
    refine V_ialdO C oX_3 g10 dX1_hear_40 ?_
    refine fp1_119 C oX_28 dX1_hear_41 ?_
    refine V_aload_n C 0 dX1_hear_44 rfl rfl ?_
    refine fg1_12 (r := 28) C oX_27 rfl dX1_hear_45 ?_
    refine V_aload_n C 0 dX1_hear_48 rfl rfl ?_
    refine fg1_42 (r := 1) C oX_27 rfl dX1_hear_49 ?_
    refine fg1_122 (r := 4) C oX_1 rfl dX1_hear_52 ?_
    refine V_iload_n C 1 dX1_hear_55 rfl rfl ?_
    have g11 : ¬ (ob l1 5) := fun g9 => by rw [if_pos g9] at h; cases h
    rw [if_neg g11] at h
    refine V_ialdO C oX_4 g11 dX1_hear_56 ?_
    refine fp1_89 C oX_28 dX1_hear_57 ?_
    refine V_aload_n C 0 dX1_hear_60 rfl rfl ?_
    refine fg1_12 (r := 28) C oX_27 rfl dX1_hear_61 ?_
    refine V_aload_n C 0 dX1_hear_64 rfl rfl ?_
    refine fg1_42 (r := 1) C oX_27 rfl dX1_hear_65 ?_
    refine fg1_125 (r := 5) C oX_1 rfl dX1_hear_68 ?_
    refine V_iload_n C 1 dX1_hear_71 rfl rfl ?_
    have g12 : ¬ (ob l1 5) := fun g9 => by rw [if_pos g9] at h; cases h
    rw [if_neg g12] at h
    refine V_ialdO C oX_5 g12 dX1_hear_72 ?_
    by_cases c13 : ((up (up (up σ 28 6 (σ.1 2 (l1).toNatClampNeg)) 28 3 ((up σ 28 6 (σ.1 2 (l1).toNatClampNeg)).1 3 (l1).toNatClampNeg)) 28 0 ((up (up σ 28 6 (σ.1 2 (l1).toNatClampNeg)) 28 3 ((up σ 28 6 (σ.1 2 (l1).toNatClampNeg)).1 3 (l1).toNatClampNeg)).1 4 (l1).toNatClampNeg)).1 5 (l1).toNatClampNeg) = 0
    · rw [if_pos c13] at h
      refine V_if_eqT C 80 dX1_hear_73 (by decide) c13 ?_
      refine V_iconst C (w := 0) dX1_hear_80 (by decide) ?_
      refine V_sub (lv' := [(0, .ref (G.2.1 27))]) [0] rfl ?_
      exact X1_hear_b81_ok C hd h
    · rw [if_neg c13] at h
      refine V_if_eqF C 80 dX1_hear_73 (by decide) c13 ?_
      refine V_iconst C (w := 1) dX1_hear_76 (by decide) ?_
      refine V_goto C 81 dX1_hear_77 (by decide) ?_
      refine V_sub (lv' := [(0, .ref (G.2.1 27))]) [0] rfl ?_
      exact X1_hear_b81_ok C hd h
def X4_named (l1 : Int32) (σ : St) : Option Int32 := if l1 = (-5) then (some (σ.1 28 4)) else (if l1 = (-4) then (some (σ.1 28 3)) else (if l1 = (-3) then (some (σ.1 28 2)) else (if l1 = (-2) then (some (σ.1 28 1)) else (if l1 = (-1) then (some (σ.1 28 0)) else (some (σ.1 28 5))))))
set_option maxRecDepth 100000 in
set_option maxHeartbeats 4000000 in
theorem X4_named_ok {l1 : Int32} {σ : St} {x : Int32} (h : X4_named l1 σ = some x) : Ct shX (1) yX4_named cX4_named 2 (some FieldType.int) (fun G => [.ref (G.2.1 28), .int l1]) σ (fun G => some (.int x)) σ := by
  refine Ct.of mw_X4_named.1 (by decide +kernel) (fun G => Nat.le_of_ble_eq_true rfl) (fun G p l e d s m args below meth c A hd C => ?_)
  refine (?_ : Vw shX G p l e d s m args below meth c 2 A σ 0 [(0, .ref (G.2.1 28)), (1, .int l1)] [] (some (.int x)) σ)
  unfold X4_named at h
  refine V_iload_n C 1 dX4_named_0 rfl rfl ?_
  by_cases c1 : l1 = (-5)
  · rw [if_pos c1] at h
    refine V_tableIn (off := 55) C 56 dX4_named_1 (by rw [c1]; decide) (by decide) ?_
    refine V_aload_n C 0 dX4_named_56 rfl rfl ?_
    refine fg4_24 C oX_28 dX4_named_57 ?_
    obtain rfl := Option.some.inj h
    exact V_iret C rfl rfl dX4_named_60
  · rw [if_neg c1] at h
    by_cases c2 : l1 = (-4)
    · rw [if_pos c2] at h
      refine V_tableIn (off := 50) C 51 dX4_named_1 (by rw [c2]; decide) (by decide) ?_
      refine V_aload_n C 0 dX4_named_51 rfl rfl ?_
      refine fg4_21 C oX_28 dX4_named_52 ?_
      obtain rfl := Option.some.inj h
      exact V_iret C rfl rfl dX4_named_55
    · rw [if_neg c2] at h
      by_cases c3 : l1 = (-3)
      · rw [if_pos c3] at h
        refine V_tableIn (off := 45) C 46 dX4_named_1 (by rw [c3]; decide) (by decide) ?_
        refine V_aload_n C 0 dX4_named_46 rfl rfl ?_
        refine fg4_18 C oX_28 dX4_named_47 ?_
        obtain rfl := Option.some.inj h
        exact V_iret C rfl rfl dX4_named_50
      · rw [if_neg c3] at h
        by_cases c4 : l1 = (-2)
        · rw [if_pos c4] at h
          refine V_tableIn (off := 40) C 41 dX4_named_1 (by rw [c4]; decide) (by decide) ?_
          refine V_aload_n C 0 dX4_named_41 rfl rfl ?_
          refine fg4_15 C oX_28 dX4_named_42 ?_
          obtain rfl := Option.some.inj h
          exact V_iret C rfl rfl dX4_named_45
        · rw [if_neg c4] at h
          by_cases c5 : l1 = (-1)
          · rw [if_pos c5] at h
            refine V_tableIn (off := 35) C 36 dX4_named_1 (by rw [c5]; decide) (by decide) ?_
            refine V_aload_n C 0 dX4_named_36 rfl rfl ?_
            refine fg4_9 C oX_28 dX4_named_37 ?_
            obtain rfl := Option.some.inj h
            exact V_iret C rfl rfl dX4_named_40
          · rw [if_neg c5] at h
            have nc1 := ti_ne c1 (show ((-5) : Int32).toInt = (-5) by decide)
            have nc2 := ti_ne c2 (show ((-4) : Int32).toInt = (-4) by decide)
            have nc3 := ti_ne c3 (show ((-3) : Int32).toInt = (-3) by decide)
            have nc4 := ti_ne c4 (show ((-2) : Int32).toInt = (-2) by decide)
            have nc5 := ti_ne c5 (show ((-1) : Int32).toInt = (-1) by decide)
            refine V_tableOut C 61 dX4_named_1 (by omega) (by decide) ?_
            refine V_aload_n C 0 dX4_named_61 rfl rfl ?_
            refine fg4_27 C oX_28 dX4_named_62 ?_
            obtain rfl := Option.some.inj h
            exact V_iret C rfl rfl dX4_named_65
def X8_joined (l0 : Int32) (l1 : Int32) (l2 : Int32) : Option Int32 := if l0 = (-13) then (some (l1 - l2)) else (if l0 = (-12) then (some (l1 + l2)) else (if l0 = (-11) then (if l1 = l2 then (some 1) else (some 0)) else (if l0 = (-10) then (if l2 ≤ l1 then (some 0) else (some 1)) else (if l0 = (-9) then (some (l1 * l2)) else (if l0 = (-8) then (if l1 = 0 then (some 0) else (if l2 = 0 then (some 0) else (some 1))) else (if l0 = (-7) then (if l1 = 0 then (if l2 = 0 then (some 0) else (some 1)) else (some 1)) else (some (l1 * l2))))))))
set_option maxRecDepth 100000 in
set_option maxHeartbeats 4000000 in
theorem X8_joined_ok {l0 : Int32} {l1 : Int32} {l2 : Int32} {σ : St} {x : Int32} (h : X8_joined l0 l1 l2 = some x) : Ct shX (1) yX8_joined cX8_joined 3 (some FieldType.int) (fun G => [.int l0, .int l1, .int l2]) σ (fun G => some (.int x)) σ := by
  refine Ct.of mw_X8_joined.1 (by decide +kernel) (fun G => Nat.le_of_ble_eq_true rfl) (fun G p l e d s m args below meth c A hd C => ?_)
  refine (?_ : Vw shX G p l e d s m args below meth c 3 A σ 0 [(0, .int l0), (1, .int l1), (2, .int l2)] [] (some (.int x)) σ)
  unfold X8_joined at h
  refine V_iload_n C 0 dX8_joined_0 rfl rfl ?_
  by_cases c1 : l0 = (-13)
  · rw [if_pos c1] at h
    refine V_tableIn (off := 97) C 98 dX8_joined_1 (by rw [c1]; decide) (by decide) ?_
    refine V_iload_n C 1 dX8_joined_98 rfl rfl ?_
    refine V_iload_n C 2 dX8_joined_99 rfl rfl ?_
    refine V_isub C dX8_joined_100 ?_
    obtain rfl := Option.some.inj h
    exact V_iret C rfl rfl dX8_joined_101
  · rw [if_neg c1] at h
    by_cases c2 : l0 = (-12)
    · rw [if_pos c2] at h
      refine V_tableIn (off := 93) C 94 dX8_joined_1 (by rw [c2]; decide) (by decide) ?_
      refine V_iload_n C 1 dX8_joined_94 rfl rfl ?_
      refine V_iload_n C 2 dX8_joined_95 rfl rfl ?_
      refine V_iadd C dX8_joined_96 ?_
      obtain rfl := Option.some.inj h
      exact V_iret C rfl rfl dX8_joined_97
    · rw [if_neg c2] at h
      by_cases c3 : l0 = (-11)
      · rw [if_pos c3] at h
        refine V_tableIn (off := 82) C 83 dX8_joined_1 (by rw [c3]; decide) (by decide) ?_
        refine V_iload_n C 1 dX8_joined_83 rfl rfl ?_
        refine V_iload_n C 2 dX8_joined_84 rfl rfl ?_
        by_cases c13 : l1 = l2
        · rw [if_pos c13] at h
          refine V_icmp_neF C 92 dX8_joined_85 (by decide) c13 ?_
          refine V_iconst C (w := 1) dX8_joined_88 (by decide) ?_
          refine V_goto C 93 dX8_joined_89 (by decide) ?_
          obtain rfl := Option.some.inj h
          exact V_iret C rfl rfl dX8_joined_93
        · rw [if_neg c13] at h
          refine V_icmp_neT C 92 dX8_joined_85 (by decide) c13 ?_
          refine V_iconst C (w := 0) dX8_joined_92 (by decide) ?_
          obtain rfl := Option.some.inj h
          exact V_iret C rfl rfl dX8_joined_93
      · rw [if_neg c3] at h
        by_cases c4 : l0 = (-10)
        · rw [if_pos c4] at h
          refine V_tableIn (off := 71) C 72 dX8_joined_1 (by rw [c4]; decide) (by decide) ?_
          refine V_iload_n C 1 dX8_joined_72 rfl rfl ?_
          refine V_iload_n C 2 dX8_joined_73 rfl rfl ?_
          by_cases c12 : l2 ≤ l1
          · rw [if_pos c12] at h
            refine V_icmp_geT C 81 dX8_joined_74 (by decide) c12 ?_
            refine V_iconst C (w := 0) dX8_joined_81 (by decide) ?_
            obtain rfl := Option.some.inj h
            exact V_iret C rfl rfl dX8_joined_82
          · rw [if_neg c12] at h
            refine V_icmp_geF C 81 dX8_joined_74 (by decide) c12 ?_
            refine V_iconst C (w := 1) dX8_joined_77 (by decide) ?_
            refine V_goto C 82 dX8_joined_78 (by decide) ?_
            obtain rfl := Option.some.inj h
            exact V_iret C rfl rfl dX8_joined_82
        · rw [if_neg c4] at h
          by_cases c5 : l0 = (-9)
          · rw [if_pos c5] at h
            refine V_tableIn (off := 101) C 102 dX8_joined_1 (by rw [c5]; decide) (by decide) ?_
            refine V_iload_n C 1 dX8_joined_102 rfl rfl ?_
            refine V_iload_n C 2 dX8_joined_103 rfl rfl ?_
            refine V_imul C dX8_joined_104 ?_
            obtain rfl := Option.some.inj h
            exact V_iret C rfl rfl dX8_joined_105
          · rw [if_neg c5] at h
            by_cases c6 : l0 = (-8)
            · rw [if_pos c6] at h
              refine V_tableIn (off := 57) C 58 dX8_joined_1 (by rw [c6]; decide) (by decide) ?_
              refine V_iload_n C 1 dX8_joined_58 rfl rfl ?_
              by_cases c10 : l1 = 0
              · rw [if_pos c10] at h
                refine V_if_eqT C 70 dX8_joined_59 (by decide) c10 ?_
                refine V_iconst C (w := 0) dX8_joined_70 (by decide) ?_
                obtain rfl := Option.some.inj h
                exact V_iret C rfl rfl dX8_joined_71
              · rw [if_neg c10] at h
                refine V_if_eqF C 70 dX8_joined_59 (by decide) c10 ?_
                refine V_iload_n C 2 dX8_joined_62 rfl rfl ?_
                by_cases c11 : l2 = 0
                · rw [if_pos c11] at h
                  refine V_if_eqT C 70 dX8_joined_63 (by decide) c11 ?_
                  refine V_iconst C (w := 0) dX8_joined_70 (by decide) ?_
                  obtain rfl := Option.some.inj h
                  exact V_iret C rfl rfl dX8_joined_71
                · rw [if_neg c11] at h
                  refine V_if_eqF C 70 dX8_joined_63 (by decide) c11 ?_
                  refine V_iconst C (w := 1) dX8_joined_66 (by decide) ?_
                  refine V_goto C 71 dX8_joined_67 (by decide) ?_
                  obtain rfl := Option.some.inj h
                  exact V_iret C rfl rfl dX8_joined_71
            · rw [if_neg c6] at h
              by_cases c7 : l0 = (-7)
              · rw [if_pos c7] at h
                refine V_tableIn (off := 43) C 44 dX8_joined_1 (by rw [c7]; decide) (by decide) ?_
                refine V_iload_n C 1 dX8_joined_44 rfl rfl ?_
                by_cases c8 : l1 = 0
                · rw [if_pos c8] at h
                  refine V_if_neF C 52 dX8_joined_45 (by decide) c8 ?_
                  refine V_iload_n C 2 dX8_joined_48 rfl rfl ?_
                  by_cases c9 : l2 = 0
                  · rw [if_pos c9] at h
                    refine V_if_eqT C 56 dX8_joined_49 (by decide) c9 ?_
                    refine V_iconst C (w := 0) dX8_joined_56 (by decide) ?_
                    obtain rfl := Option.some.inj h
                    exact V_iret C rfl rfl dX8_joined_57
                  · rw [if_neg c9] at h
                    refine V_if_eqF C 56 dX8_joined_49 (by decide) c9 ?_
                    refine V_iconst C (w := 1) dX8_joined_52 (by decide) ?_
                    refine V_goto C 57 dX8_joined_53 (by decide) ?_
                    obtain rfl := Option.some.inj h
                    exact V_iret C rfl rfl dX8_joined_57
                · rw [if_neg c8] at h
                  refine V_if_neT C 52 dX8_joined_45 (by decide) c8 ?_
                  refine V_iconst C (w := 1) dX8_joined_52 (by decide) ?_
                  refine V_goto C 57 dX8_joined_53 (by decide) ?_
                  obtain rfl := Option.some.inj h
                  exact V_iret C rfl rfl dX8_joined_57
              · rw [if_neg c7] at h
                have nc1 := ti_ne c1 (show ((-13) : Int32).toInt = (-13) by decide)
                have nc2 := ti_ne c2 (show ((-12) : Int32).toInt = (-12) by decide)
                have nc3 := ti_ne c3 (show ((-11) : Int32).toInt = (-11) by decide)
                have nc4 := ti_ne c4 (show ((-10) : Int32).toInt = (-10) by decide)
                have nc5 := ti_ne c5 (show ((-9) : Int32).toInt = (-9) by decide)
                have nc6 := ti_ne c6 (show ((-8) : Int32).toInt = (-8) by decide)
                have nc7 := ti_ne c7 (show ((-7) : Int32).toInt = (-7) by decide)
                refine V_tableOut C 102 dX8_joined_1 (by omega) (by decide) ?_
                refine V_iload_n C 1 dX8_joined_102 rfl rfl ?_
                refine V_iload_n C 2 dX8_joined_103 rfl rfl ?_
                refine V_imul C dX8_joined_104 ?_
                obtain rfl := Option.some.inj h
                exact V_iret C rfl rfl dX8_joined_105
def X8_tell_b163 (K90 : Int32 → Int32 → Int32 → Int32 → St → Option (Int32 × St)) (l1 : Int32) (l5 : Int32) (l6 : Int32) (l7 : Int32) (s0 : Int32) (s1 : Int32) (σ : St) : Option (Int32 × St) := if ob s1 160 then none else (K90 l1 l5 l6 (l7 + 1) (up σ 24 (s1).toNatClampNeg s0))
set_option maxRecDepth 100000 in
set_option maxHeartbeats 4000000 in
theorem X8_tell_b163_ok {G : Gx} {p : Program} {l : Launch} {e : Env} {d : Nat} {s : State} {m : MethodId} {args : Array Value} {below : List Frame} {meth : Method} {c : Code} {A : Nat → Prop} {K90 : Int32 → Int32 → Int32 → Int32 → St → Option (Int32 × St)} (C : OK shX G p s m args meth c RX8 cX8_tell 9 (some FieldType.int) A) (hd : 2 ≤ d) (hK90 : ∀  {l1 : Int32} {l5 : Int32} {l6 : Int32} {l7 : Int32} {σ : St} {x : (Int32 × St)}, K90 l1 l5 l6 l7 σ = some x → Vw shX G p l e d s m args below meth c 9 A σ 90 [(0, .ref (G.2.1 13)), (1, .int l1), (3, .ref (G.2.1 28)), (5, .int l5), (6, .int l6), (7, .int l7)] [] (some (.int x.1)) x.2) {l1 : Int32} {l5 : Int32} {l6 : Int32} {l7 : Int32} {s0 : Int32} {s1 : Int32} {σ : St} {x : (Int32 × St)} (h : X8_tell_b163 K90 l1 l5 l6 l7 s0 s1 σ = some x) : Vw shX G p l e d s m args below meth c 9 A σ 163 [(0, .ref (G.2.1 13)), (1, .int l1), (3, .ref (G.2.1 28)), (5, .int l5), (6, .int l6), (7, .int l7)] [.int s0, .int s1, .ref (G.2.1 24)] (some (.int x.1)) x.2 := by
  unfold X8_tell_b163 at h
  have g1 : ¬ (ob s1 160) := fun g9 => by rw [if_pos g9] at h; cases h
  rw [if_neg g1] at h
  refine V_iastO C oX_24 g1 dX8_tell_163 ?_
  refine V_goto C 281 dX8_tell_164 (by decide) ?_
  refine V_iinc C (w := (l7 + 1)) (lv' := [(7, .int (l7 + 1)), (0, .ref (G.2.1 13)), (1, .int l1), (3, .ref (G.2.1 28)), (5, .int l5), (6, .int l6)]) 5 dX8_tell_281 rfl (congrArg (l7 + ·) (show Int32.ofInt 1 = 1 by decide)) (by decide) rfl ?_
  refine V_goto C 90 dX8_tell_284 (by decide) ?_
  refine V_sub (lv' := [(0, .ref (G.2.1 13)), (1, .int l1), (3, .ref (G.2.1 28)), (5, .int l5), (6, .int l6), (7, .int (l7 + 1))]) [1, 2, 3, 4, 5, 0] rfl ?_
  exact hK90 h
def X8_tell_b207 (K90 : Int32 → Int32 → Int32 → Int32 → St → Option (Int32 × St)) (l1 : Int32) (l5 : Int32) (l6 : Int32) (l7 : Int32) (s0 : Int32) (s1 : Int32) (σ : St) : Option (Int32 × St) := if ob s1 160 then none else (K90 l1 l5 l6 (l7 + 1) (up σ 24 (s1).toNatClampNeg s0))
set_option maxRecDepth 100000 in
set_option maxHeartbeats 4000000 in
theorem X8_tell_b207_ok {G : Gx} {p : Program} {l : Launch} {e : Env} {d : Nat} {s : State} {m : MethodId} {args : Array Value} {below : List Frame} {meth : Method} {c : Code} {A : Nat → Prop} {K90 : Int32 → Int32 → Int32 → Int32 → St → Option (Int32 × St)} (C : OK shX G p s m args meth c RX8 cX8_tell 9 (some FieldType.int) A) (hd : 2 ≤ d) (hK90 : ∀  {l1 : Int32} {l5 : Int32} {l6 : Int32} {l7 : Int32} {σ : St} {x : (Int32 × St)}, K90 l1 l5 l6 l7 σ = some x → Vw shX G p l e d s m args below meth c 9 A σ 90 [(0, .ref (G.2.1 13)), (1, .int l1), (3, .ref (G.2.1 28)), (5, .int l5), (6, .int l6), (7, .int l7)] [] (some (.int x.1)) x.2) {l1 : Int32} {l5 : Int32} {l6 : Int32} {l7 : Int32} {s0 : Int32} {s1 : Int32} {σ : St} {x : (Int32 × St)} (h : X8_tell_b207 K90 l1 l5 l6 l7 s0 s1 σ = some x) : Vw shX G p l e d s m args below meth c 9 A σ 207 [(0, .ref (G.2.1 13)), (1, .int l1), (3, .ref (G.2.1 28)), (5, .int l5), (6, .int l6), (7, .int l7)] [.int s0, .int s1, .ref (G.2.1 24)] (some (.int x.1)) x.2 := by
  unfold X8_tell_b207 at h
  have g2 : ¬ (ob s1 160) := fun g9 => by rw [if_pos g9] at h; cases h
  rw [if_neg g2] at h
  refine V_iastO C oX_24 g2 dX8_tell_207 ?_
  refine V_goto C 281 dX8_tell_208 (by decide) ?_
  refine V_iinc C (w := (l7 + 1)) (lv' := [(7, .int (l7 + 1)), (0, .ref (G.2.1 13)), (1, .int l1), (3, .ref (G.2.1 28)), (5, .int l5), (6, .int l6)]) 5 dX8_tell_281 rfl (congrArg (l7 + ·) (show Int32.ofInt 1 = 1 by decide)) (by decide) rfl ?_
  refine V_goto C 90 dX8_tell_284 (by decide) ?_
  refine V_sub (lv' := [(0, .ref (G.2.1 13)), (1, .int l1), (3, .ref (G.2.1 28)), (5, .int l5), (6, .int l6), (7, .int (l7 + 1))]) [1, 2, 3, 4, 5, 0] rfl ?_
  exact hK90 h
def X8_tell_b287 (l6 : Int32) (σ : St) : Option (Int32 × St) := if l6 ≤ 0 then (some (0, σ)) else (if ob (l6 - 1) 160 then none else (some ((σ.1 24 ((l6 - 1)).toNatClampNeg), σ)))
set_option maxRecDepth 100000 in
set_option maxHeartbeats 4000000 in
theorem X8_tell_b287_ok {G : Gx} {p : Program} {l : Launch} {e : Env} {d : Nat} {s : State} {m : MethodId} {args : Array Value} {below : List Frame} {meth : Method} {c : Code} {A : Nat → Prop} (C : OK shX G p s m args meth c RX8 cX8_tell 9 (some FieldType.int) A) (hd : 2 ≤ d) {l6 : Int32} {σ : St} {x : (Int32 × St)} (h : X8_tell_b287 l6 σ = some x) : Vw shX G p l e d s m args below meth c 9 A σ 287 [(0, .ref (G.2.1 13)), (6, .int l6)] [] (some (.int x.1)) x.2 := by
  unfold X8_tell_b287 at h
  refine V_iload C 1 dX8_tell_287 rfl ?_
  by_cases c3 : l6 ≤ 0
  · rw [if_pos c3] at h
    refine V_if_leT C 304 dX8_tell_289 (by decide) c3 ?_
    refine V_iconst C (w := 0) dX8_tell_304 (by decide) ?_
    obtain rfl := Option.some.inj h
    exact V_iret C rfl rfl dX8_tell_305
  · rw [if_neg c3] at h
    refine V_if_leF C 304 dX8_tell_289 (by decide) c3 ?_
    refine V_aload_n C 0 dX8_tell_292 rfl rfl ?_
    refine fg8_26 (r := 24) C oX_13 rfl dX8_tell_293 ?_
    refine V_iload C 1 dX8_tell_296 rfl ?_
    refine V_iconst C (w := 1) dX8_tell_298 (by decide) ?_
    refine V_isub C dX8_tell_299 ?_
    have g4 : ¬ (ob (l6 - 1) 160) := fun g9 => by rw [if_pos g9] at h; cases h
    rw [if_neg g4] at h
    refine V_ialdO C oX_24 g4 dX8_tell_300 ?_
    refine V_goto C 305 dX8_tell_301 (by decide) ?_
    obtain rfl := Option.some.inj h
    exact V_iret C rfl rfl dX8_tell_305
def X8_tell_b90 : Nat → Int32 → Int32 → Int32 → Int32 → St → Option (Int32 × St)
  | 0, _, _, _, _, _ => none
  | F + 1, l1, l5, l6, l7, σ => if l7 < 0 then (X8_tell_b287 l6 σ) else (if l5 ≤ l7 then (X8_tell_b287 l6 σ) else (if 160 ≤ l7 then (X8_tell_b287 l6 σ) else (if ob l1 6 then none else (if isA shX (rfX 14 (l1).toNatClampNeg) 20 then (if ob l7 (lnX (rfX 14 (l1).toNatClampNeg)) then none else (if (σ.1 (rfX 14 (l1).toNatClampNeg) (l7).toNatClampNeg) ≤ (-7) then (if 1 ≤ l6 then (if (σ.1 (rfX 14 (l1).toNatClampNeg) (l7).toNatClampNeg) = (-9) then (if ob (l6 - 1) 160 then none else (if (σ.1 24 ((l6 - 1)).toNatClampNeg) = 0 then (X8_tell_b207 (X8_tell_b90 F) l1 l5 l6 l7 1 (l6 - 1) σ) else (X8_tell_b207 (X8_tell_b90 F) l1 l5 l6 l7 0 (l6 - 1) σ))) else (if (σ.1 (rfX 14 (l1).toNatClampNeg) (l7).toNatClampNeg) = (-15) then (if ob (l6 - 1) 160 then none else (if ob (l6 - 1) 160 then none else (X8_tell_b90 F l1 l5 l6 (l7 + 1) (up σ 24 ((l6 - 1)).toNatClampNeg (-(σ.1 24 ((l6 - 1)).toNatClampNeg)))))) else (if 2 ≤ l6 then (if ob ((l6 + (-1)) - 1) 160 then none else (if ob (l6 + (-1)) 160 then none else ((X8_joined (σ.1 (rfX 14 (l1).toNatClampNeg) (l7).toNatClampNeg) (σ.1 24 (((l6 + (-1)) - 1)).toNatClampNeg) (σ.1 24 ((l6 + (-1))).toNatClampNeg)).bind (fun x277 => if ob ((l6 + (-1)) - 1) 160 then none else (X8_tell_b90 F l1 l5 (l6 + (-1)) (l7 + 1) (up σ 24 (((l6 + (-1)) - 1)).toNatClampNeg x277)))))) else (some (0, σ))))) else (some (0, σ))) else (if l6 < 160 then (if (σ.1 (rfX 14 (l1).toNatClampNeg) (l7).toNatClampNeg) < 0 then ((X4_named (σ.1 (rfX 14 (l1).toNatClampNeg) (l7).toNatClampNeg) σ).bind (fun x160 => X8_tell_b163 (X8_tell_b90 F) l1 l5 (l6 + 1) l7 x160 l6 σ)) else (X8_tell_b163 (X8_tell_b90 F) l1 l5 (l6 + 1) l7 (σ.1 (rfX 14 (l1).toNatClampNeg) (l7).toNatClampNeg) l6 σ)) else (some (0, σ))))) else none))))
set_option maxRecDepth 100000 in
set_option maxHeartbeats 4000000 in
theorem X8_tell_b90_ok {G : Gx} {p : Program} {l : Launch} {e : Env} {d : Nat} {s : State} {m : MethodId} {args : Array Value} {below : List Frame} {meth : Method} {c : Code} {A : Nat → Prop} (C : OK shX G p s m args meth c RX8 cX8_tell 9 (some FieldType.int) A) (hd : 2 ≤ d) : ∀ (F : Nat) {l1 : Int32} {l5 : Int32} {l6 : Int32} {l7 : Int32} {σ : St} {x : (Int32 × St)} (h : X8_tell_b90 F l1 l5 l6 l7 σ = some x), Vw shX G p l e d s m args below meth c 9 A σ 90 [(0, .ref (G.2.1 13)), (1, .int l1), (3, .ref (G.2.1 28)), (5, .int l5), (6, .int l6), (7, .int l7)] [] (some (.int x.1)) x.2 := by
  intro F
  induction F with
  | zero =>
    intro l1 l5 l6 l7 σ x h
    rw [X8_tell_b90] at h
    cases h
  | succ F ih =>
    intro l1 l5 l6 l7 σ x h
    rw [X8_tell_b90] at h
    refine V_iload C 5 dX8_tell_90 rfl ?_
    by_cases c5 : l7 < 0
    · rw [if_pos c5] at h
      refine V_if_ltT C 287 dX8_tell_92 (by decide) c5 ?_
      refine V_sub (lv' := [(0, .ref (G.2.1 13)), (6, .int l6)]) [0, 4] rfl ?_
      exact X8_tell_b287_ok C hd h
    · rw [if_neg c5] at h
      refine V_if_ltF C 287 dX8_tell_92 (by decide) c5 ?_
      refine V_iload C 5 dX8_tell_95 rfl ?_
      refine V_iload C 3 dX8_tell_97 rfl ?_
      by_cases c6 : l5 ≤ l7
      · rw [if_pos c6] at h
        refine V_icmp_geT C 287 dX8_tell_99 (by decide) c6 ?_
        refine V_sub (lv' := [(0, .ref (G.2.1 13)), (6, .int l6)]) [0, 4] rfl ?_
        exact X8_tell_b287_ok C hd h
      · rw [if_neg c6] at h
        refine V_icmp_geF C 287 dX8_tell_99 (by decide) c6 ?_
        refine V_iload C 5 dX8_tell_102 rfl ?_
        refine V_sipush C (w := 160) dX8_tell_104 (by decide) ?_
        by_cases c7 : 160 ≤ l7
        · rw [if_pos c7] at h
          refine V_icmp_geT C 287 dX8_tell_107 (by decide) c7 ?_
          refine V_sub (lv' := [(0, .ref (G.2.1 13)), (6, .int l6)]) [0, 4] rfl ?_
          exact X8_tell_b287_ok C hd h
        · rw [if_neg c7] at h
          refine V_icmp_geF C 287 dX8_tell_107 (by decide) c7 ?_
          refine V_aload_n C 0 dX8_tell_110 rfl rfl ?_
          refine fg8_11 (r := 14) C oX_13 rfl dX8_tell_111 ?_
          refine V_iload_n C 1 dX8_tell_114 rfl rfl ?_
          have g8 : ¬ (ob l1 6) := fun g9 => by rw [if_pos g9] at h; cases h
          rw [if_neg g8] at h
          refine V_aald2O C oX_14 g8 dX8_tell_115 ?_
          refine V_iload C 5 dX8_tell_116 rfl ?_
          have g9 : isA shX (rfX 14 (l1).toNatClampNeg) 20 := Decidable.byContradiction (fun g9 => by rw [if_neg g9] at h; cases h)
          rw [if_pos g9] at h
          have g10 : ¬ (ob l7 (lnX (rfX 14 (l1).toNatClampNeg))) := fun g9 => by rw [if_pos g9] at h; cases h
          rw [if_neg g10] at h
          refine V_ialdA C g9 g10 dX8_tell_118 ?_
          refine V_istore C (lv' := [(8, .int (σ.1 (rfX 14 (l1).toNatClampNeg) (l7).toNatClampNeg)), (0, .ref (G.2.1 13)), (1, .int l1), (3, .ref (G.2.1 28)), (5, .int l5), (6, .int l6), (7, .int l7)]) dX8_tell_119 (by decide) rfl ?_
          refine V_iload C 0 dX8_tell_121 rfl ?_
          refine V_bipush C (w := (-7)) dX8_tell_123 (by decide) ?_
          by_cases c11 : (σ.1 (rfX 14 (l1).toNatClampNeg) (l7).toNatClampNeg) ≤ (-7)
          · rw [if_pos c11] at h
            refine V_icmp_leT C 167 dX8_tell_125 (by decide) c11 ?_
            refine V_iload C 5 dX8_tell_167 rfl ?_
            refine V_iconst C (w := 1) dX8_tell_169 (by decide) ?_
            by_cases c12 : 1 ≤ l6
            · rw [if_pos c12] at h
              refine V_icmp_geT C 175 dX8_tell_170 (by decide) c12 ?_
              refine V_iload C 0 dX8_tell_175 rfl ?_
              refine V_bipush C (w := (-9)) dX8_tell_177 (by decide) ?_
              by_cases c13 : (σ.1 (rfX 14 (l1).toNatClampNeg) (l7).toNatClampNeg) = (-9)
              · rw [if_pos c13] at h
                refine V_icmp_neF C 211 dX8_tell_179 (by decide) c13 ?_
                refine V_aload_n C 1 dX8_tell_182 rfl rfl ?_
                refine fg8_26 (r := 24) C oX_13 rfl dX8_tell_183 ?_
                refine V_iload C 5 dX8_tell_186 rfl ?_
                refine V_iconst C (w := 1) dX8_tell_188 (by decide) ?_
                refine V_isub C dX8_tell_189 ?_
                refine V_aload_n C 1 dX8_tell_190 rfl rfl ?_
                refine fg8_26 (r := 24) C oX_13 rfl dX8_tell_191 ?_
                refine V_iload C 5 dX8_tell_194 rfl ?_
                refine V_iconst C (w := 1) dX8_tell_196 (by decide) ?_
                refine V_isub C dX8_tell_197 ?_
                have g21 : ¬ (ob (l6 - 1) 160) := fun g9 => by rw [if_pos g9] at h; cases h
                rw [if_neg g21] at h
                refine V_ialdO C oX_24 g21 dX8_tell_198 ?_
                by_cases c22 : (σ.1 24 ((l6 - 1)).toNatClampNeg) = 0
                · rw [if_pos c22] at h
                  refine V_if_neF C 206 dX8_tell_199 (by decide) c22 ?_
                  refine V_iconst C (w := 1) dX8_tell_202 (by decide) ?_
                  refine V_goto C 207 dX8_tell_203 (by decide) ?_
                  refine V_sub (lv' := [(0, .ref (G.2.1 13)), (1, .int l1), (3, .ref (G.2.1 28)), (5, .int l5), (6, .int l6), (7, .int l7)]) [1, 2, 3, 4, 5, 6] rfl ?_
                  exact X8_tell_b207_ok C hd (fun h => ih h) h
                · rw [if_neg c22] at h
                  refine V_if_neT C 206 dX8_tell_199 (by decide) c22 ?_
                  refine V_iconst C (w := 0) dX8_tell_206 (by decide) ?_
                  refine V_sub (lv' := [(0, .ref (G.2.1 13)), (1, .int l1), (3, .ref (G.2.1 28)), (5, .int l5), (6, .int l6), (7, .int l7)]) [1, 2, 3, 4, 5, 6] rfl ?_
                  exact X8_tell_b207_ok C hd (fun h => ih h) h
              · rw [if_neg c13] at h
                refine V_icmp_neT C 211 dX8_tell_179 (by decide) c13 ?_
                refine V_iload C 0 dX8_tell_211 rfl ?_
                refine V_bipush C (w := (-15)) dX8_tell_213 (by decide) ?_
                by_cases c14 : (σ.1 (rfX 14 (l1).toNatClampNeg) (l7).toNatClampNeg) = (-15)
                · rw [if_pos c14] at h
                  refine V_icmp_neF C 240 dX8_tell_215 (by decide) c14 ?_
                  refine V_aload_n C 1 dX8_tell_218 rfl rfl ?_
                  refine fg8_26 (r := 24) C oX_13 rfl dX8_tell_219 ?_
                  refine V_iload C 5 dX8_tell_222 rfl ?_
                  refine V_iconst C (w := 1) dX8_tell_224 (by decide) ?_
                  refine V_isub C dX8_tell_225 ?_
                  refine V_aload_n C 1 dX8_tell_226 rfl rfl ?_
                  refine fg8_26 (r := 24) C oX_13 rfl dX8_tell_227 ?_
                  refine V_iload C 5 dX8_tell_230 rfl ?_
                  refine V_iconst C (w := 1) dX8_tell_232 (by decide) ?_
                  refine V_isub C dX8_tell_233 ?_
                  have g19 : ¬ (ob (l6 - 1) 160) := fun g9 => by rw [if_pos g9] at h; cases h
                  rw [if_neg g19] at h
                  refine V_ialdO C oX_24 g19 dX8_tell_234 ?_
                  refine V_ineg C dX8_tell_235 ?_
                  have g20 : ¬ (ob (l6 - 1) 160) := fun g9 => by rw [if_pos g9] at h; cases h
                  rw [if_neg g20] at h
                  refine V_iastO C oX_24 g20 dX8_tell_236 ?_
                  refine V_goto C 281 dX8_tell_237 (by decide) ?_
                  refine V_iinc C (w := (l7 + 1)) (lv' := [(7, .int (l7 + 1)), (8, .int (σ.1 (rfX 14 (l1).toNatClampNeg) (l7).toNatClampNeg)), (0, .ref (G.2.1 13)), (1, .int l1), (3, .ref (G.2.1 28)), (5, .int l5), (6, .int l6)]) 6 dX8_tell_281 rfl (congrArg (l7 + ·) (show Int32.ofInt 1 = 1 by decide)) (by decide) rfl ?_
                  refine V_goto C 90 dX8_tell_284 (by decide) ?_
                  refine V_sub (lv' := [(0, .ref (G.2.1 13)), (1, .int l1), (3, .ref (G.2.1 28)), (5, .int l5), (6, .int l6), (7, .int (l7 + 1))]) [2, 3, 4, 5, 6, 0] rfl ?_
                  exact ih h
                · rw [if_neg c14] at h
                  refine V_icmp_neT C 240 dX8_tell_215 (by decide) c14 ?_
                  refine V_iload C 5 dX8_tell_240 rfl ?_
                  refine V_iconst C (w := 2) dX8_tell_242 (by decide) ?_
                  by_cases c15 : 2 ≤ l6
                  · rw [if_pos c15] at h
                    refine V_icmp_geT C 248 dX8_tell_243 (by decide) c15 ?_
                    refine V_iinc C (w := (l6 + (-1))) (lv' := [(6, .int (l6 + (-1))), (8, .int (σ.1 (rfX 14 (l1).toNatClampNeg) (l7).toNatClampNeg)), (0, .ref (G.2.1 13)), (1, .int l1), (3, .ref (G.2.1 28)), (5, .int l5), (7, .int l7)]) 5 dX8_tell_248 rfl (congrArg (l6 + ·) (show Int32.ofInt (-1) = (-1) by decide)) (by decide) rfl ?_
                    refine V_aload_n C 2 dX8_tell_251 rfl rfl ?_
                    refine fg8_26 (r := 24) C oX_13 rfl dX8_tell_252 ?_
                    refine V_iload C 0 dX8_tell_255 rfl ?_
                    refine V_iconst C (w := 1) dX8_tell_257 (by decide) ?_
                    refine V_isub C dX8_tell_258 ?_
                    refine V_iload C 1 dX8_tell_259 rfl ?_
                    refine V_aload_n C 2 dX8_tell_261 rfl rfl ?_
                    refine fg8_26 (r := 24) C oX_13 rfl dX8_tell_262 ?_
                    refine V_iload C 0 dX8_tell_265 rfl ?_
                    refine V_iconst C (w := 1) dX8_tell_267 (by decide) ?_
                    refine V_isub C dX8_tell_268 ?_
                    have g16 : ¬ (ob ((l6 + (-1)) - 1) 160) := fun g9 => by rw [if_pos g9] at h; cases h
                    rw [if_neg g16] at h
                    refine V_ialdO C oX_24 g16 dX8_tell_269 ?_
                    refine V_aload_n C 2 dX8_tell_270 rfl rfl ?_
                    refine fg8_26 (r := 24) C oX_13 rfl dX8_tell_271 ?_
                    refine V_iload C 0 dX8_tell_274 rfl ?_
                    have g17 : ¬ (ob (l6 + (-1)) 160) := fun g9 => by rw [if_pos g9] at h; cases h
                    rw [if_neg g17] at h
                    refine V_ialdO C oX_24 g17 dX8_tell_276 ?_
                    obtain ⟨x277, h277, h⟩ := Option.bind_eq_some_iff.mp h
                    refine V_callSi (As := [.int (σ.1 (rfX 14 (l1).toNatClampNeg) (l7).toNatClampNeg), .int (σ.1 24 (((l6 + (-1)) - 1)).toNatClampNeg), .int (σ.1 24 ((l6 + (-1))).toNatClampNeg)]) C (X8_joined_ok h277) mw_X8_joined.1 mw_X8_joined.2 q8_43 (by omega) rfl rfl rfl (Nat.le_of_ble_eq_true rfl) dX8_tell_277 ?_
                    have g18 : ¬ (ob ((l6 + (-1)) - 1) 160) := fun g9 => by rw [if_pos g9] at h; cases h
                    rw [if_neg g18] at h
                    refine V_iastO C oX_24 g18 dX8_tell_280 ?_
                    refine V_iinc C (w := (l7 + 1)) (lv' := [(7, .int (l7 + 1)), (6, .int (l6 + (-1))), (8, .int (σ.1 (rfX 14 (l1).toNatClampNeg) (l7).toNatClampNeg)), (0, .ref (G.2.1 13)), (1, .int l1), (3, .ref (G.2.1 28)), (5, .int l5)]) 6 dX8_tell_281 rfl (congrArg (l7 + ·) (show Int32.ofInt 1 = 1 by decide)) (by decide) rfl ?_
                    refine V_goto C 90 dX8_tell_284 (by decide) ?_
                    refine V_sub (lv' := [(0, .ref (G.2.1 13)), (1, .int l1), (3, .ref (G.2.1 28)), (5, .int l5), (6, .int (l6 + (-1))), (7, .int (l7 + 1))]) [3, 4, 5, 6, 1, 0] rfl ?_
                    exact ih h
                  · rw [if_neg c15] at h
                    refine V_icmp_geF C 248 dX8_tell_243 (by decide) c15 ?_
                    refine V_iconst C (w := 0) dX8_tell_246 (by decide) ?_
                    obtain rfl := Option.some.inj h
                    exact V_iret C rfl rfl dX8_tell_247
            · rw [if_neg c12] at h
              refine V_icmp_geF C 175 dX8_tell_170 (by decide) c12 ?_
              refine V_iconst C (w := 0) dX8_tell_173 (by decide) ?_
              obtain rfl := Option.some.inj h
              exact V_iret C rfl rfl dX8_tell_174
          · rw [if_neg c11] at h
            refine V_icmp_leF C 167 dX8_tell_125 (by decide) c11 ?_
            refine V_iload C 5 dX8_tell_128 rfl ?_
            refine V_sipush C (w := 160) dX8_tell_130 (by decide) ?_
            by_cases c23 : l6 < 160
            · rw [if_pos c23] at h
              refine V_icmp_ltT C 138 dX8_tell_133 (by decide) c23 ?_
              refine V_aload_n C 1 dX8_tell_138 rfl rfl ?_
              refine fg8_26 (r := 24) C oX_13 rfl dX8_tell_139 ?_
              refine V_iload C 5 dX8_tell_142 rfl ?_
              refine V_iinc C (w := (l6 + 1)) (lv' := [(6, .int (l6 + 1)), (8, .int (σ.1 (rfX 14 (l1).toNatClampNeg) (l7).toNatClampNeg)), (0, .ref (G.2.1 13)), (1, .int l1), (3, .ref (G.2.1 28)), (5, .int l5), (7, .int l7)]) 5 dX8_tell_144 rfl (congrArg (l6 + ·) (show Int32.ofInt 1 = 1 by decide)) (by decide) rfl ?_
              refine V_iload C 1 dX8_tell_147 rfl ?_
              by_cases c24 : (σ.1 (rfX 14 (l1).toNatClampNeg) (l7).toNatClampNeg) < 0
              · rw [if_pos c24] at h
                refine V_if_ltT C 157 dX8_tell_149 (by decide) c24 ?_
                refine V_aload_n C 4 dX8_tell_157 rfl rfl ?_
                refine V_iload C 1 dX8_tell_158 rfl ?_
                obtain ⟨x160, h160, h⟩ := Option.bind_eq_some_iff.mp h
                refine V_callVi (As := [.int (σ.1 (rfX 14 (l1).toNatClampNeg) (l7).toNatClampNeg)]) C (X4_named_ok h160) mw_X4_named.1 mw_X4_named.2.1 mw_X4_named.2.2 q8_37 oX_28.1 oX_28.2.1 (by decide) rfl rfl (by omega) rfl rfl rfl (Nat.le_of_ble_eq_true rfl) dX8_tell_160 ?_
                refine V_sub (lv' := [(0, .ref (G.2.1 13)), (1, .int l1), (3, .ref (G.2.1 28)), (5, .int l5), (6, .int (l6 + 1)), (7, .int l7)]) [2, 3, 4, 5, 0, 6] rfl ?_
                exact X8_tell_b163_ok C hd (fun h => ih h) h
              · rw [if_neg c24] at h
                refine V_if_ltF C 157 dX8_tell_149 (by decide) c24 ?_
                refine V_iload C 1 dX8_tell_152 rfl ?_
                refine V_goto C 163 dX8_tell_154 (by decide) ?_
                refine V_sub (lv' := [(0, .ref (G.2.1 13)), (1, .int l1), (3, .ref (G.2.1 28)), (5, .int l5), (6, .int (l6 + 1)), (7, .int l7)]) [2, 3, 4, 5, 0, 6] rfl ?_
                exact X8_tell_b163_ok C hd (fun h => ih h) h
            · rw [if_neg c23] at h
              refine V_icmp_ltF C 138 dX8_tell_133 (by decide) c23 ?_
              refine V_iconst C (w := 0) dX8_tell_136 (by decide) ?_
              obtain rfl := Option.some.inj h
              exact V_iret C rfl rfl dX8_tell_137
def X8_tell_b81 (l1 : Int32) (l4 : Int32) (s0 : Int32) (σ : St) : Option (Int32 × St) := X8_tell_b90 FU l1 s0 0 l4 σ
set_option maxRecDepth 100000 in
set_option maxHeartbeats 4000000 in
theorem X8_tell_b81_ok {G : Gx} {p : Program} {l : Launch} {e : Env} {d : Nat} {s : State} {m : MethodId} {args : Array Value} {below : List Frame} {meth : Method} {c : Code} {A : Nat → Prop} (C : OK shX G p s m args meth c RX8 cX8_tell 9 (some FieldType.int) A) (hd : 2 ≤ d) {l1 : Int32} {l4 : Int32} {s0 : Int32} {σ : St} {x : (Int32 × St)} (h : X8_tell_b81 l1 l4 s0 σ = some x) : Vw shX G p l e d s m args below meth c 9 A σ 81 [(0, .ref (G.2.1 13)), (1, .int l1), (3, .ref (G.2.1 28)), (4, .int l4)] [.int s0] (some (.int x.1)) x.2 := by
  unfold X8_tell_b81 at h
  refine V_istore C (lv' := [(5, .int s0), (0, .ref (G.2.1 13)), (1, .int l1), (3, .ref (G.2.1 28)), (4, .int l4)]) dX8_tell_81 (by decide) rfl ?_
  refine V_iconst C (w := 0) dX8_tell_83 (by decide) ?_
  refine V_istore C (lv' := [(6, .int 0), (5, .int s0), (0, .ref (G.2.1 13)), (1, .int l1), (3, .ref (G.2.1 28)), (4, .int l4)]) dX8_tell_84 (by decide) rfl ?_
  refine V_iload C 5 dX8_tell_86 rfl ?_
  refine V_istore C (lv' := [(7, .int l4), (6, .int 0), (5, .int s0), (0, .ref (G.2.1 13)), (1, .int l1), (3, .ref (G.2.1 28)), (4, .int l4)]) dX8_tell_88 (by decide) rfl ?_
  refine V_sub (lv' := [(0, .ref (G.2.1 13)), (1, .int l1), (3, .ref (G.2.1 28)), (5, .int s0), (6, .int 0), (7, .int l4)]) [3, 4, 5, 2, 1, 0] rfl ?_
  exact X8_tell_b90_ok C hd FU h
def X8_tell_b43 (l1 : Int32) (l2 : Int32) (s0 : Int32) (σ : St) : Option (Int32 × St) := if l2 = (-16) then (if ob l1 6 then none else (X8_tell_b81 l1 s0 (σ.1 21 (l1).toNatClampNeg) σ)) else (if l2 = (-17) then (if ob l1 6 then none else (X8_tell_b81 l1 s0 (σ.1 22 (l1).toNatClampNeg) σ)) else (if ob l1 6 then none else (X8_tell_b81 l1 s0 (σ.1 23 (l1).toNatClampNeg) σ)))
set_option maxRecDepth 100000 in
set_option maxHeartbeats 4000000 in
theorem X8_tell_b43_ok {G : Gx} {p : Program} {l : Launch} {e : Env} {d : Nat} {s : State} {m : MethodId} {args : Array Value} {below : List Frame} {meth : Method} {c : Code} {A : Nat → Prop} (C : OK shX G p s m args meth c RX8 cX8_tell 9 (some FieldType.int) A) (hd : 2 ≤ d) {l1 : Int32} {l2 : Int32} {s0 : Int32} {σ : St} {x : (Int32 × St)} (h : X8_tell_b43 l1 l2 s0 σ = some x) : Vw shX G p l e d s m args below meth c 9 A σ 43 [(0, .ref (G.2.1 13)), (1, .int l1), (2, .int l2), (3, .ref (G.2.1 28))] [.int s0] (some (.int x.1)) x.2 := by
  unfold X8_tell_b43 at h
  refine V_istore C (lv' := [(4, .int s0), (0, .ref (G.2.1 13)), (1, .int l1), (2, .int l2), (3, .ref (G.2.1 28))]) dX8_tell_43 (by decide) rfl ?_
  refine V_iload_n C 3 dX8_tell_45 rfl rfl ?_
  refine V_bipush C (w := (-16)) dX8_tell_46 (by decide) ?_
  by_cases c25 : l2 = (-16)
  · rw [if_pos c25] at h
    refine V_icmp_neF C 60 dX8_tell_48 (by decide) c25 ?_
    refine V_aload_n C 1 dX8_tell_51 rfl rfl ?_
    refine fg8_16 (r := 21) C oX_13 rfl dX8_tell_52 ?_
    refine V_iload_n C 2 dX8_tell_55 rfl rfl ?_
    have g29 : ¬ (ob l1 6) := fun g9 => by rw [if_pos g9] at h; cases h
    rw [if_neg g29] at h
    refine V_ialdO C oX_21 g29 dX8_tell_56 ?_
    refine V_goto C 81 dX8_tell_57 (by decide) ?_
    refine V_sub (lv' := [(0, .ref (G.2.1 13)), (1, .int l1), (3, .ref (G.2.1 28)), (4, .int s0)]) [1, 2, 4, 0] rfl ?_
    exact X8_tell_b81_ok C hd h
  · rw [if_neg c25] at h
    refine V_icmp_neT C 60 dX8_tell_48 (by decide) c25 ?_
    refine V_iload_n C 3 dX8_tell_60 rfl rfl ?_
    refine V_bipush C (w := (-17)) dX8_tell_61 (by decide) ?_
    by_cases c26 : l2 = (-17)
    · rw [if_pos c26] at h
      refine V_icmp_neF C 75 dX8_tell_63 (by decide) c26 ?_
      refine V_aload_n C 1 dX8_tell_66 rfl rfl ?_
      refine fg8_20 (r := 22) C oX_13 rfl dX8_tell_67 ?_
      refine V_iload_n C 2 dX8_tell_70 rfl rfl ?_
      have g28 : ¬ (ob l1 6) := fun g9 => by rw [if_pos g9] at h; cases h
      rw [if_neg g28] at h
      refine V_ialdO C oX_22 g28 dX8_tell_71 ?_
      refine V_goto C 81 dX8_tell_72 (by decide) ?_
      refine V_sub (lv' := [(0, .ref (G.2.1 13)), (1, .int l1), (3, .ref (G.2.1 28)), (4, .int s0)]) [1, 2, 4, 0] rfl ?_
      exact X8_tell_b81_ok C hd h
    · rw [if_neg c26] at h
      refine V_icmp_neT C 75 dX8_tell_63 (by decide) c26 ?_
      refine V_aload_n C 1 dX8_tell_75 rfl rfl ?_
      refine fg8_23 (r := 23) C oX_13 rfl dX8_tell_76 ?_
      refine V_iload_n C 2 dX8_tell_79 rfl rfl ?_
      have g27 : ¬ (ob l1 6) := fun g9 => by rw [if_pos g9] at h; cases h
      rw [if_neg g27] at h
      refine V_ialdO C oX_23 g27 dX8_tell_80 ?_
      refine V_sub (lv' := [(0, .ref (G.2.1 13)), (1, .int l1), (3, .ref (G.2.1 28)), (4, .int s0)]) [1, 2, 4, 0] rfl ?_
      exact X8_tell_b81_ok C hd h
def X8_tell (l1 : Int32) (l2 : Int32) (σ : St) : Option (Int32 × St) := if l1 < 0 then (some (0, σ)) else (if l1 < 6 then (if l2 = (-16) then (X8_tell_b43 l1 l2 0 σ) else (if l2 = (-17) then (if ob l1 6 then none else (X8_tell_b43 l1 l2 (σ.1 21 (l1).toNatClampNeg) σ)) else (if ob l1 6 then none else (X8_tell_b43 l1 l2 (σ.1 22 (l1).toNatClampNeg) σ)))) else (some (0, σ)))
set_option maxRecDepth 100000 in
set_option maxHeartbeats 4000000 in
theorem X8_tell_ok {l1 : Int32} {l2 : Int32} {σ : St} {x : (Int32 × St)} (h : X8_tell l1 l2 σ = some x) : Ct shX (2) yX8_tell cX8_tell 9 (some FieldType.int) (fun G => [.ref (G.2.1 13), .int l1, .int l2, .ref (G.2.1 28)]) σ (fun G => some (.int x.1)) x.2 := by
  refine Ct.of mw_X8_tell.1 (by decide +kernel) (fun G => Nat.le_of_ble_eq_true rfl) (fun G p l e d s m args below meth c A hd C => ?_)
  refine (?_ : Vw shX G p l e d s m args below meth c 9 A σ 0 [(0, .ref (G.2.1 13)), (1, .int l1), (2, .int l2), (3, .ref (G.2.1 28))] [] (some (.int x.1)) x.2)
  unfold X8_tell at h
  refine V_iload_n C 1 dX8_tell_0 rfl rfl ?_
  by_cases c30 : l1 < 0
  · rw [if_pos c30] at h
    refine V_if_ltT C 10 dX8_tell_1 (by decide) c30 ?_
    refine V_iconst C (w := 0) dX8_tell_10 (by decide) ?_
    obtain rfl := Option.some.inj h
    exact V_iret C rfl rfl dX8_tell_11
  · rw [if_neg c30] at h
    refine V_if_ltF C 10 dX8_tell_1 (by decide) c30 ?_
    refine V_iload_n C 1 dX8_tell_4 rfl rfl ?_
    refine V_bipush C (w := 6) dX8_tell_5 (by decide) ?_
    by_cases c31 : l1 < 6
    · rw [if_pos c31] at h
      refine V_icmp_ltT C 12 dX8_tell_7 (by decide) c31 ?_
      refine V_iload_n C 2 dX8_tell_12 rfl rfl ?_
      refine V_bipush C (w := (-16)) dX8_tell_13 (by decide) ?_
      by_cases c32 : l2 = (-16)
      · rw [if_pos c32] at h
        refine V_icmp_neF C 22 dX8_tell_15 (by decide) c32 ?_
        refine V_iconst C (w := 0) dX8_tell_18 (by decide) ?_
        refine V_goto C 43 dX8_tell_19 (by decide) ?_
        exact X8_tell_b43_ok C hd h
      · rw [if_neg c32] at h
        refine V_icmp_neT C 22 dX8_tell_15 (by decide) c32 ?_
        refine V_iload_n C 2 dX8_tell_22 rfl rfl ?_
        refine V_bipush C (w := (-17)) dX8_tell_23 (by decide) ?_
        by_cases c33 : l2 = (-17)
        · rw [if_pos c33] at h
          refine V_icmp_neF C 37 dX8_tell_25 (by decide) c33 ?_
          refine V_aload_n C 0 dX8_tell_28 rfl rfl ?_
          refine fg8_16 (r := 21) C oX_13 rfl dX8_tell_29 ?_
          refine V_iload_n C 1 dX8_tell_32 rfl rfl ?_
          have g35 : ¬ (ob l1 6) := fun g9 => by rw [if_pos g9] at h; cases h
          rw [if_neg g35] at h
          refine V_ialdO C oX_21 g35 dX8_tell_33 ?_
          refine V_goto C 43 dX8_tell_34 (by decide) ?_
          exact X8_tell_b43_ok C hd h
        · rw [if_neg c33] at h
          refine V_icmp_neT C 37 dX8_tell_25 (by decide) c33 ?_
          refine V_aload_n C 0 dX8_tell_37 rfl rfl ?_
          refine fg8_20 (r := 22) C oX_13 rfl dX8_tell_38 ?_
          refine V_iload_n C 1 dX8_tell_41 rfl rfl ?_
          have g34 : ¬ (ob l1 6) := fun g9 => by rw [if_pos g9] at h; cases h
          rw [if_neg g34] at h
          refine V_ialdO C oX_22 g34 dX8_tell_42 ?_
          exact X8_tell_b43_ok C hd h
    · rw [if_neg c31] at h
      refine V_icmp_ltF C 12 dX8_tell_7 (by decide) c31 ?_
      refine V_iconst C (w := 0) dX8_tell_10 (by decide) ?_
      obtain rfl := Option.some.inj h
      exact V_iret C rfl rfl dX8_tell_11
def X9_within (l0 : Int32) (l1 : Int32) (l2 : Int32) : Option Int32 := some (if l1 < (if l0 < l2 then l0 else l2) then (if l0 < l2 then l0 else l2) else l1)
set_option maxRecDepth 100000 in
set_option maxHeartbeats 4000000 in
theorem X9_within_ok {l0 : Int32} {l1 : Int32} {l2 : Int32} {σ : St} {x : Int32} (h : X9_within l0 l1 l2 = some x) : Ct shX (1) yX9_within cX9_within 3 (some FieldType.int) (fun G => [.int l0, .int l1, .int l2]) σ (fun G => some (.int x)) σ := by
  refine Ct.of mw_X9_within.1 (by decide +kernel) (fun G => Nat.le_of_ble_eq_true rfl) (fun G p l e d s m args below meth c A hd C => ?_)
  refine (?_ : Vw shX G p l e d s m args below meth c 3 A σ 0 [(0, .int l0), (1, .int l1), (2, .int l2)] [] (some (.int x)) σ)
  unfold X9_within at h
  refine V_iload_n C 1 dX9_within_0 rfl rfl ?_
  refine V_iload_n C 2 dX9_within_1 rfl rfl ?_
  refine V_iload_n C 0 dX9_within_2 rfl rfl ?_
  refine V_mmin C q9_292 (by omega) (Nat.le_of_ble_eq_true rfl) dX9_within_3 ?_
  refine V_mmax C q9_297 (by omega) (Nat.le_of_ble_eq_true rfl) dX9_within_6 ?_
  obtain rfl := Option.some.inj h
  exact V_iret C rfl rfl dX9_within_9
def X4_isAgain (σ : St) : Option Int32 := if (σ.1 28 1) = (σ.1 28 0) then (some 1) else (some 0)
set_option maxRecDepth 100000 in
set_option maxHeartbeats 4000000 in
theorem X4_isAgain_ok {σ : St} {x : Int32} (h : X4_isAgain σ = some x) : Ct shX (1) yX4_isAgain cX4_isAgain 1 (some FieldType.boolean) (fun G => [.ref (G.2.1 28)]) σ (fun G => some (.int x)) σ := by
  refine Ct.of mw_X4_isAgain.1 (by decide +kernel) (fun G => Nat.le_of_ble_eq_true rfl) (fun G p l e d s m args below meth c A hd C => ?_)
  refine (?_ : Vw shX G p l e d s m args below meth c 1 A σ 0 [(0, .ref (G.2.1 28))] [] (some (.int x)) σ)
  unfold X4_isAgain at h
  refine V_aload_n C 0 dX4_isAgain_0 rfl rfl ?_
  refine fg4_15 C oX_28 dX4_isAgain_1 ?_
  refine V_aload_n C 0 dX4_isAgain_4 rfl rfl ?_
  refine fg4_9 C oX_28 dX4_isAgain_5 ?_
  by_cases c1 : (σ.1 28 1) = (σ.1 28 0)
  · rw [if_pos c1] at h
    refine V_icmp_neF C 15 dX4_isAgain_8 (by decide) c1 ?_
    refine V_iconst C (w := 1) dX4_isAgain_11 (by decide) ?_
    refine V_goto C 16 dX4_isAgain_12 (by decide) ?_
    obtain rfl := Option.some.inj h
    exact V_iret C rfl (nz (Or.inr rfl)) dX4_isAgain_16
  · rw [if_neg c1] at h
    refine V_icmp_neT C 15 dX4_isAgain_8 (by decide) c1 ?_
    refine V_iconst C (w := 0) dX4_isAgain_15 (by decide) ?_
    obtain rfl := Option.some.inj h
    exact V_iret C rfl (nz (Or.inl rfl)) dX4_isAgain_16
def X4_cools_b62 (s0 : Int32) (s1 : Int32) (σ : St) : Option Int32 := some (if s1 < s0 then s0 else s1)
set_option maxRecDepth 100000 in
set_option maxHeartbeats 4000000 in
theorem X4_cools_b62_ok {G : Gx} {p : Program} {l : Launch} {e : Env} {d : Nat} {s : State} {m : MethodId} {args : Array Value} {below : List Frame} {meth : Method} {c : Code} {A : Nat → Prop} (C : OK shX G p s m args meth c RX4 cX4_cools 2 (some FieldType.int) A) (hd : 2 ≤ d) {s0 : Int32} {s1 : Int32} {σ : St} {x : Int32} (h : X4_cools_b62 s0 s1 σ = some x) : Vw shX G p l e d s m args below meth c 2 A σ 62 [] [.int s0, .int s1] (some (.int x)) σ := by
  unfold X4_cools_b62 at h
  refine V_mmax C q4_44 (by omega) (Nat.le_of_ble_eq_true rfl) dX4_cools_62 ?_
  obtain rfl := Option.some.inj h
  exact V_iret C rfl rfl dX4_cools_65
def X4_cools (l1 : Int32) (σ : St) : Option Int32 := if (σ.1 28 6) = 2 then (some (if 0 < (l1 - 2) then (l1 - 2) else 0)) else (if (σ.1 28 6) = 3 then ((X4_isAgain σ).bind (fun x46 => if x46 = 0 then (X4_cools_b62 l1 0 σ) else (X4_cools_b62 (l1 + (σ.1 28 3)) 0 σ))) else (if (σ.1 28 6) = 4 then (some (if 0 < (l1 - 2) then (l1 - 2) else 0)) else (if (σ.1 28 6) = 5 then (some 0) else (some (if 0 < l1 then l1 else 0)))))
set_option maxRecDepth 100000 in
set_option maxHeartbeats 4000000 in
theorem X4_cools_ok {l1 : Int32} {σ : St} {x : Int32} (h : X4_cools l1 σ = some x) : Ct shX (2) yX4_cools cX4_cools 2 (some FieldType.int) (fun G => [.ref (G.2.1 28), .int l1]) σ (fun G => some (.int x)) σ := by
  refine Ct.of mw_X4_cools.1 (by decide +kernel) (fun G => Nat.le_of_ble_eq_true rfl) (fun G p l e d s m args below meth c A hd C => ?_)
  refine (?_ : Vw shX G p l e d s m args below meth c 2 A σ 0 [(0, .ref (G.2.1 28)), (1, .int l1)] [] (some (.int x)) σ)
  unfold X4_cools at h
  refine V_aload_n C 0 dX4_cools_0 rfl rfl ?_
  refine fg4_34 C oX_28 dX4_cools_1 ?_
  by_cases c1 : (σ.1 28 6) = 2
  · rw [if_pos c1] at h
    refine V_tableIn (off := 32) C 36 dX4_cools_4 (by rw [c1]; decide) (by decide) ?_
    refine V_iconst C (w := 0) dX4_cools_36 (by decide) ?_
    refine V_iload_n C 1 dX4_cools_37 rfl rfl ?_
    refine V_iconst C (w := 2) dX4_cools_38 (by decide) ?_
    refine V_isub C dX4_cools_39 ?_
    refine V_mmax C q4_44 (by omega) (Nat.le_of_ble_eq_true rfl) dX4_cools_40 ?_
    obtain rfl := Option.some.inj h
    exact V_iret C rfl rfl dX4_cools_43
  · rw [if_neg c1] at h
    by_cases c2 : (σ.1 28 6) = 3
    · rw [if_pos c2] at h
      refine V_tableIn (off := 40) C 44 dX4_cools_4 (by rw [c2]; decide) (by decide) ?_
      refine V_iconst C (w := 0) dX4_cools_44 (by decide) ?_
      refine V_aload_n C 0 dX4_cools_45 rfl rfl ?_
      obtain ⟨x46, h46, h⟩ := Option.bind_eq_some_iff.mp h
      refine V_callVi (As := []) C (X4_isAgain_ok h46) mw_X4_isAgain.1 mw_X4_isAgain.2.1 mw_X4_isAgain.2.2 q4_37 oX_28.1 oX_28.2.1 (by decide) rfl rfl (by omega) rfl rfl rfl (Nat.le_of_ble_eq_true rfl) dX4_cools_46 ?_
      by_cases c5 : x46 = 0
      · rw [if_pos c5] at h
        refine V_if_eqT C 61 dX4_cools_49 (by decide) c5 ?_
        refine V_iload_n C 1 dX4_cools_61 rfl rfl ?_
        refine V_sub (lv' := []) [] rfl ?_
        exact X4_cools_b62_ok C hd h
      · rw [if_neg c5] at h
        refine V_if_eqF C 61 dX4_cools_49 (by decide) c5 ?_
        refine V_iload_n C 1 dX4_cools_52 rfl rfl ?_
        refine V_aload_n C 0 dX4_cools_53 rfl rfl ?_
        refine fg4_21 C oX_28 dX4_cools_54 ?_
        refine V_iadd C dX4_cools_57 ?_
        refine V_goto C 62 dX4_cools_58 (by decide) ?_
        refine V_sub (lv' := []) [] rfl ?_
        exact X4_cools_b62_ok C hd h
    · rw [if_neg c2] at h
      by_cases c3 : (σ.1 28 6) = 4
      · rw [if_pos c3] at h
        refine V_tableIn (off := 32) C 36 dX4_cools_4 (by rw [c3]; decide) (by decide) ?_
        refine V_iconst C (w := 0) dX4_cools_36 (by decide) ?_
        refine V_iload_n C 1 dX4_cools_37 rfl rfl ?_
        refine V_iconst C (w := 2) dX4_cools_38 (by decide) ?_
        refine V_isub C dX4_cools_39 ?_
        refine V_mmax C q4_44 (by omega) (Nat.le_of_ble_eq_true rfl) dX4_cools_40 ?_
        obtain rfl := Option.some.inj h
        exact V_iret C rfl rfl dX4_cools_43
      · rw [if_neg c3] at h
        by_cases c4 : (σ.1 28 6) = 5
        · rw [if_pos c4] at h
          refine V_tableIn (off := 62) C 66 dX4_cools_4 (by rw [c4]; decide) (by decide) ?_
          refine V_iconst C (w := 0) dX4_cools_66 (by decide) ?_
          obtain rfl := Option.some.inj h
          exact V_iret C rfl rfl dX4_cools_67
        · rw [if_neg c4] at h
          have nc1 := ti_ne c1 (show (2 : Int32).toInt = 2 by decide)
          have nc2 := ti_ne c2 (show (3 : Int32).toInt = 3 by decide)
          have nc3 := ti_ne c3 (show (4 : Int32).toInt = 4 by decide)
          have nc4 := ti_ne c4 (show (5 : Int32).toInt = 5 by decide)
          refine V_tableOut C 68 dX4_cools_4 (by omega) (by decide) ?_
          refine V_iconst C (w := 0) dX4_cools_68 (by decide) ?_
          refine V_iload_n C 1 dX4_cools_69 rfl rfl ?_
          refine V_mmax C q4_44 (by omega) (Nat.le_of_ble_eq_true rfl) dX4_cools_70 ?_
          obtain rfl := Option.some.inj h
          exact V_iret C rfl rfl dX4_cools_73
def X1_cools (σ : St) : Option (Int32 × St) := (X8_tell (σ.1 1 4) (-17) σ).bind (fun x21 => (X9_within x21.1 (-99) 99).bind (fun x28 => (X4_cools x28 x21.2).bind (fun x31 => some (x31, x21.2))))
set_option maxRecDepth 100000 in
set_option maxHeartbeats 4000000 in
theorem X1_cools_ok {σ : St} {x : (Int32 × St)} (h : X1_cools σ = some x) : Ct shX (3) yX1_cools cX1_cools 1 (some FieldType.int) (fun G => [.ref (G.2.1 27)]) σ (fun G => some (.int x.1)) x.2 := by
  refine Ct.of mw_X1_cools.1 (by decide +kernel) (fun G => Nat.le_of_ble_eq_true rfl) (fun G p l e d s m args below meth c A hd C => ?_)
  refine (?_ : Vw shX G p l e d s m args below meth c 1 A σ 0 [(0, .ref (G.2.1 27))] [] (some (.int x.1)) x.2)
  unfold X1_cools at h
  refine V_aload_n C 0 dX1_cools_0 rfl rfl ?_
  refine fg1_12 (r := 28) C oX_27 rfl dX1_cools_1 ?_
  refine V_aload_n C 0 dX1_cools_4 rfl rfl ?_
  refine fg1_46 (r := 13) C oX_27 rfl dX1_cools_5 ?_
  refine V_aload_n C 0 dX1_cools_8 rfl rfl ?_
  refine fg1_42 (r := 1) C oX_27 rfl dX1_cools_9 ?_
  refine fg1_80 C oX_1 dX1_cools_12 ?_
  refine V_bipush C (w := (-17)) dX1_cools_15 (by decide) ?_
  refine V_aload_n C 0 dX1_cools_17 rfl rfl ?_
  refine fg1_12 (r := 28) C oX_27 rfl dX1_cools_18 ?_
  obtain ⟨x21, h21, h⟩ := Option.bind_eq_some_iff.mp h
  refine V_callVi (As := [.int (σ.1 1 4), .int (-17), .ref (G.2.1 28)]) C (X8_tell_ok h21) mw_X8_tell.1 mw_X8_tell.2.1 mw_X8_tell.2.2 q1_83 oX_13.1 oX_13.2.1 (by decide) rfl rfl (by omega) rfl rfl rfl (Nat.le_of_ble_eq_true rfl) dX1_cools_21 ?_
  refine V_bipush C (w := (-99)) dX1_cools_24 (by decide) ?_
  refine V_bipush C (w := 99) dX1_cools_26 (by decide) ?_
  obtain ⟨x28, h28, h⟩ := Option.bind_eq_some_iff.mp h
  refine V_callSNi (As := [.int x21.1, .int (-99), .int 99]) C (X9_within_ok h28) mw_X9_within.1 mw_X9_within.2 qn1_73 (by omega) rfl rfl rfl (Nat.le_of_ble_eq_true rfl) dX1_cools_28 ?_
  obtain ⟨x31, h31, h⟩ := Option.bind_eq_some_iff.mp h
  refine V_callVi (As := [.int x28]) C (X4_cools_ok h31) mw_X4_cools.1 mw_X4_cools.2.1 mw_X4_cools.2.2 q1_152 oX_28.1 oX_28.2.1 (by decide) rfl rfl (by omega) rfl rfl rfl (Nat.le_of_ble_eq_true rfl) dX1_cools_31 ?_
  obtain rfl := Option.some.inj h
  exact V_iret C rfl rfl dX1_cools_34
def X4_warms_b13 (s0 : Int32) (σ : St) : Option Int32 := if (σ.1 28 6) = 1 then (some (2 * s0)) else (if (σ.1 28 6) = 2 then (some (s0 + (σ.1 28 3))) else (if (σ.1 28 6) = 3 then ((X4_isAgain σ).bind (fun x64 => if x64 = 0 then (some (2 * s0)) else (some ((-2) * s0)))) else (if (σ.1 28 6) = 4 then (if (σ.1 28 8) = 0 then (some (((s0 + (σ.1 28 3)) / 2) - 0)) else (some (((s0 + (σ.1 28 3)) / 2) - 5))) else (if (σ.1 28 6) = 5 then (some (if 3 < s0 then s0 else 3)) else (some s0)))))
set_option maxRecDepth 100000 in
set_option maxHeartbeats 4000000 in
theorem X4_warms_b13_ok {G : Gx} {p : Program} {l : Launch} {e : Env} {d : Nat} {s : State} {m : MethodId} {args : Array Value} {below : List Frame} {meth : Method} {c : Code} {A : Nat → Prop} (C : OK shX G p s m args meth c RX4 cX4_warms 3 (some FieldType.int) A) (hd : 2 ≤ d) {s0 : Int32} {σ : St} {x : Int32} (h : X4_warms_b13 s0 σ = some x) : Vw shX G p l e d s m args below meth c 3 A σ 13 [(0, .ref (G.2.1 28))] [.int s0] (some (.int x)) σ := by
  unfold X4_warms_b13 at h
  refine V_istore_n C (lv' := [(2, .int s0), (0, .ref (G.2.1 28))]) dX4_warms_13 rfl (by decide) rfl ?_
  refine V_aload_n C 1 dX4_warms_14 rfl rfl ?_
  refine fg4_34 C oX_28 dX4_warms_15 ?_
  by_cases c1 : (σ.1 28 6) = 1
  · rw [if_pos c1] at h
    refine V_tableIn (off := 34) C 52 dX4_warms_18 (by rw [c1]; decide) (by decide) ?_
    refine V_iconst C (w := 2) dX4_warms_52 (by decide) ?_
    refine V_iload_n C 0 dX4_warms_53 rfl rfl ?_
    refine V_imul C dX4_warms_54 ?_
    obtain rfl := Option.some.inj h
    exact V_iret C rfl rfl dX4_warms_55
  · rw [if_neg c1] at h
    by_cases c2 : (σ.1 28 6) = 2
    · rw [if_pos c2] at h
      refine V_tableIn (off := 38) C 56 dX4_warms_18 (by rw [c2]; decide) (by decide) ?_
      refine V_iload_n C 0 dX4_warms_56 rfl rfl ?_
      refine V_aload_n C 1 dX4_warms_57 rfl rfl ?_
      refine fg4_21 C oX_28 dX4_warms_58 ?_
      refine V_iadd C dX4_warms_61 ?_
      obtain rfl := Option.some.inj h
      exact V_iret C rfl rfl dX4_warms_62
    · rw [if_neg c2] at h
      by_cases c3 : (σ.1 28 6) = 3
      · rw [if_pos c3] at h
        refine V_tableIn (off := 45) C 63 dX4_warms_18 (by rw [c3]; decide) (by decide) ?_
        refine V_aload_n C 1 dX4_warms_63 rfl rfl ?_
        obtain ⟨x64, h64, h⟩ := Option.bind_eq_some_iff.mp h
        refine V_callVi (As := []) C (X4_isAgain_ok h64) mw_X4_isAgain.1 mw_X4_isAgain.2.1 mw_X4_isAgain.2.2 q4_37 oX_28.1 oX_28.2.1 (by decide) rfl rfl (by omega) rfl rfl rfl (Nat.le_of_ble_eq_true rfl) dX4_warms_64 ?_
        by_cases c7 : x64 = 0
        · rw [if_pos c7] at h
          refine V_if_eqT C 77 dX4_warms_67 (by decide) c7 ?_
          refine V_iconst C (w := 2) dX4_warms_77 (by decide) ?_
          refine V_iload_n C 0 dX4_warms_78 rfl rfl ?_
          refine V_imul C dX4_warms_79 ?_
          obtain rfl := Option.some.inj h
          exact V_iret C rfl rfl dX4_warms_80
        · rw [if_neg c7] at h
          refine V_if_eqF C 77 dX4_warms_67 (by decide) c7 ?_
          refine V_bipush C (w := (-2)) dX4_warms_70 (by decide) ?_
          refine V_iload_n C 0 dX4_warms_72 rfl rfl ?_
          refine V_imul C dX4_warms_73 ?_
          refine V_goto C 80 dX4_warms_74 (by decide) ?_
          obtain rfl := Option.some.inj h
          exact V_iret C rfl rfl dX4_warms_80
      · rw [if_neg c3] at h
        by_cases c4 : (σ.1 28 6) = 4
        · rw [if_pos c4] at h
          refine V_tableIn (off := 63) C 81 dX4_warms_18 (by rw [c4]; decide) (by decide) ?_
          refine V_iload_n C 0 dX4_warms_81 rfl rfl ?_
          refine V_aload_n C 1 dX4_warms_82 rfl rfl ?_
          refine fg4_21 C oX_28 dX4_warms_83 ?_
          refine V_iadd C dX4_warms_86 ?_
          refine V_iconst C (w := 2) dX4_warms_87 (by decide) ?_
          refine V_idiv C dX4_warms_88 (by decide) ?_
          refine V_aload_n C 1 dX4_warms_89 rfl rfl ?_
          refine fg4_41 C oX_28 dX4_warms_90 ?_
          by_cases c6 : (σ.1 28 8) = 0
          · rw [if_pos c6] at h
            refine V_if_eqT C 100 dX4_warms_93 (by decide) c6 ?_
            refine V_iconst C (w := 0) dX4_warms_100 (by decide) ?_
            refine V_isub C dX4_warms_101 ?_
            obtain rfl := Option.some.inj h
            exact V_iret C rfl rfl dX4_warms_102
          · rw [if_neg c6] at h
            refine V_if_eqF C 100 dX4_warms_93 (by decide) c6 ?_
            refine V_iconst C (w := 5) dX4_warms_96 (by decide) ?_
            refine V_goto C 101 dX4_warms_97 (by decide) ?_
            refine V_isub C dX4_warms_101 ?_
            obtain rfl := Option.some.inj h
            exact V_iret C rfl rfl dX4_warms_102
        · rw [if_neg c4] at h
          by_cases c5 : (σ.1 28 6) = 5
          · rw [if_pos c5] at h
            refine V_tableIn (off := 85) C 103 dX4_warms_18 (by rw [c5]; decide) (by decide) ?_
            refine V_iconst C (w := 3) dX4_warms_103 (by decide) ?_
            refine V_iload_n C 0 dX4_warms_104 rfl rfl ?_
            refine V_mmax C q4_44 (by omega) (Nat.le_of_ble_eq_true rfl) dX4_warms_105 ?_
            obtain rfl := Option.some.inj h
            exact V_iret C rfl rfl dX4_warms_108
          · rw [if_neg c5] at h
            have nc1 := ti_ne c1 (show (1 : Int32).toInt = 1 by decide)
            have nc2 := ti_ne c2 (show (2 : Int32).toInt = 2 by decide)
            have nc3 := ti_ne c3 (show (3 : Int32).toInt = 3 by decide)
            have nc4 := ti_ne c4 (show (4 : Int32).toInt = 4 by decide)
            have nc5 := ti_ne c5 (show (5 : Int32).toInt = 5 by decide)
            refine V_tableOut C 109 dX4_warms_18 (by omega) (by decide) ?_
            refine V_iload_n C 0 dX4_warms_109 rfl rfl ?_
            obtain rfl := Option.some.inj h
            exact V_iret C rfl rfl dX4_warms_110
def X4_warms (l1 : Int32) (σ : St) : Option Int32 := if (σ.1 28 7) = 0 then (X4_warms_b13 (-l1) σ) else (X4_warms_b13 l1 σ)
set_option maxRecDepth 100000 in
set_option maxHeartbeats 4000000 in
theorem X4_warms_ok {l1 : Int32} {σ : St} {x : Int32} (h : X4_warms l1 σ = some x) : Ct shX (2) yX4_warms cX4_warms 3 (some FieldType.int) (fun G => [.ref (G.2.1 28), .int l1]) σ (fun G => some (.int x)) σ := by
  refine Ct.of mw_X4_warms.1 (by decide +kernel) (fun G => Nat.le_of_ble_eq_true rfl) (fun G p l e d s m args below meth c A hd C => ?_)
  refine (?_ : Vw shX G p l e d s m args below meth c 3 A σ 0 [(0, .ref (G.2.1 28)), (1, .int l1)] [] (some (.int x)) σ)
  unfold X4_warms at h
  refine V_aload_n C 0 dX4_warms_0 rfl rfl ?_
  refine fg4_30 C oX_28 dX4_warms_1 ?_
  by_cases c8 : (σ.1 28 7) = 0
  · rw [if_pos c8] at h
    refine V_if_eqT C 11 dX4_warms_4 (by decide) c8 ?_
    refine V_iload_n C 1 dX4_warms_11 rfl rfl ?_
    refine V_ineg C dX4_warms_12 ?_
    refine V_sub (lv' := [(0, .ref (G.2.1 28))]) [0] rfl ?_
    exact X4_warms_b13_ok C hd h
  · rw [if_neg c8] at h
    refine V_if_eqF C 11 dX4_warms_4 (by decide) c8 ?_
    refine V_iload_n C 1 dX4_warms_7 rfl rfl ?_
    refine V_goto C 13 dX4_warms_8 (by decide) ?_
    refine V_sub (lv' := [(0, .ref (G.2.1 28))]) [0] rfl ?_
    exact X4_warms_b13_ok C hd h
def X1_warms (σ : St) : Option (Int32 × St) := (X8_tell (σ.1 1 4) (-16) σ).bind (fun x21 => (X9_within x21.1 (-99) 99).bind (fun x28 => (X4_warms x28 x21.2).bind (fun x31 => some (x31, x21.2))))
set_option maxRecDepth 100000 in
set_option maxHeartbeats 4000000 in
theorem X1_warms_ok {σ : St} {x : (Int32 × St)} (h : X1_warms σ = some x) : Ct shX (3) yX1_warms cX1_warms 1 (some FieldType.int) (fun G => [.ref (G.2.1 27)]) σ (fun G => some (.int x.1)) x.2 := by
  refine Ct.of mw_X1_warms.1 (by decide +kernel) (fun G => Nat.le_of_ble_eq_true rfl) (fun G p l e d s m args below meth c A hd C => ?_)
  refine (?_ : Vw shX G p l e d s m args below meth c 1 A σ 0 [(0, .ref (G.2.1 27))] [] (some (.int x.1)) x.2)
  unfold X1_warms at h
  refine V_aload_n C 0 dX1_warms_0 rfl rfl ?_
  refine fg1_12 (r := 28) C oX_27 rfl dX1_warms_1 ?_
  refine V_aload_n C 0 dX1_warms_4 rfl rfl ?_
  refine fg1_46 (r := 13) C oX_27 rfl dX1_warms_5 ?_
  refine V_aload_n C 0 dX1_warms_8 rfl rfl ?_
  refine fg1_42 (r := 1) C oX_27 rfl dX1_warms_9 ?_
  refine fg1_80 C oX_1 dX1_warms_12 ?_
  refine V_bipush C (w := (-16)) dX1_warms_15 (by decide) ?_
  refine V_aload_n C 0 dX1_warms_17 rfl rfl ?_
  refine fg1_12 (r := 28) C oX_27 rfl dX1_warms_18 ?_
  obtain ⟨x21, h21, h⟩ := Option.bind_eq_some_iff.mp h
  refine V_callVi (As := [.int (σ.1 1 4), .int (-16), .ref (G.2.1 28)]) C (X8_tell_ok h21) mw_X8_tell.1 mw_X8_tell.2.1 mw_X8_tell.2.2 q1_83 oX_13.1 oX_13.2.1 (by decide) rfl rfl (by omega) rfl rfl rfl (Nat.le_of_ble_eq_true rfl) dX1_warms_21 ?_
  refine V_bipush C (w := (-99)) dX1_warms_24 (by decide) ?_
  refine V_bipush C (w := 99) dX1_warms_26 (by decide) ?_
  obtain ⟨x28, h28, h⟩ := Option.bind_eq_some_iff.mp h
  refine V_callSNi (As := [.int x21.1, .int (-99), .int 99]) C (X9_within_ok h28) mw_X9_within.1 mw_X9_within.2 qn1_73 (by omega) rfl rfl rfl (Nat.le_of_ble_eq_true rfl) dX1_warms_28 ?_
  obtain ⟨x31, h31, h⟩ := Option.bind_eq_some_iff.mp h
  refine V_callVi (As := [.int x28]) C (X4_warms_ok h31) mw_X4_warms.1 mw_X4_warms.2.1 mw_X4_warms.2.2 q1_150 oX_28.1 oX_28.2.1 (by decide) rfl rfl (by omega) rfl rfl rfl (Nat.le_of_ble_eq_true rfl) dX1_warms_31 ?_
  obtain rfl := Option.some.inj h
  exact V_iret C rfl rfl dX1_warms_34
def X1_comeUp_b198 (l1 : Int32) (l4 : Int32) (l5 : Int32) (s0 : Int32) (s1 : Int32) (σ : St) : Option (Int32 × St) := if ob s1 5 then none else (if ob ((up σ 31 (s1).toNatClampNeg s0).1 27 8) 5 then none else (if ob ((up (up σ 31 (s1).toNatClampNeg s0) 32 (((up σ 31 (s1).toNatClampNeg s0).1 27 8)).toNatClampNeg (vp_nar .boolean l4)).1 27 8) 5 then none else (some (1, (up (up (up (up (up σ 31 (s1).toNatClampNeg s0) 32 (((up σ 31 (s1).toNatClampNeg s0).1 27 8)).toNatClampNeg (vp_nar .boolean l4)) 33 (((up (up σ 31 (s1).toNatClampNeg s0) 32 (((up σ 31 (s1).toNatClampNeg s0).1 27 8)).toNatClampNeg (vp_nar .boolean l4)).1 27 8)).toNatClampNeg (vp_nar .boolean l5)) 27 8 (((up (up (up σ 31 (s1).toNatClampNeg s0) 32 (((up σ 31 (s1).toNatClampNeg s0).1 27 8)).toNatClampNeg (vp_nar .boolean l4)) 33 (((up (up σ 31 (s1).toNatClampNeg s0) 32 (((up σ 31 (s1).toNatClampNeg s0).1 27 8)).toNatClampNeg (vp_nar .boolean l4)).1 27 8)).toNatClampNeg (vp_nar .boolean l5)).1 27 8) + 1)) 27 9 (((up (up (up (up σ 31 (s1).toNatClampNeg s0) 32 (((up σ 31 (s1).toNatClampNeg s0).1 27 8)).toNatClampNeg (vp_nar .boolean l4)) 33 (((up (up σ 31 (s1).toNatClampNeg s0) 32 (((up σ 31 (s1).toNatClampNeg s0).1 27 8)).toNatClampNeg (vp_nar .boolean l4)).1 27 8)).toNatClampNeg (vp_nar .boolean l5)) 27 8 (((up (up (up σ 31 (s1).toNatClampNeg s0) 32 (((up σ 31 (s1).toNatClampNeg s0).1 27 8)).toNatClampNeg (vp_nar .boolean l4)) 33 (((up (up σ 31 (s1).toNatClampNeg s0) 32 (((up σ 31 (s1).toNatClampNeg s0).1 27 8)).toNatClampNeg (vp_nar .boolean l4)).1 27 8)).toNatClampNeg (vp_nar .boolean l5)).1 27 8) + 1)).1 27 9) ||| (1 <<< (l1 &&& 31))))))))
set_option maxRecDepth 100000 in
set_option maxHeartbeats 4000000 in
theorem X1_comeUp_b198_ok {G : Gx} {p : Program} {l : Launch} {e : Env} {d : Nat} {s : State} {m : MethodId} {args : Array Value} {below : List Frame} {meth : Method} {c : Code} {A : Nat → Prop} (C : OK shX G p s m args meth c RX1 cX1_comeUp 6 (some FieldType.boolean) A) (hd : 4 ≤ d) {l1 : Int32} {l4 : Int32} {l5 : Int32} {s0 : Int32} {s1 : Int32} {σ : St} {x : (Int32 × St)} (h : X1_comeUp_b198 l1 l4 l5 s0 s1 σ = some x) : Vw shX G p l e d s m args below meth c 6 A σ 198 [(0, .ref (G.2.1 27)), (1, .int l1), (4, .int l4), (5, .int l5)] [.int s0, .int s1, .ref (G.2.1 31)] (some (.int x.1)) x.2 := by
  unfold X1_comeUp_b198 at h
  have g1 : ¬ (ob s1 5) := fun g9 => by rw [if_pos g9] at h; cases h
  rw [if_neg g1] at h
  refine V_iastO C oX_31 g1 dX1_comeUp_198 ?_
  refine V_aload_n C 0 dX1_comeUp_199 rfl rfl ?_
  refine fg1_28 (r := 32) C oX_27 rfl dX1_comeUp_200 ?_
  refine V_aload_n C 0 dX1_comeUp_203 rfl rfl ?_
  refine fg1_35 C oX_27 dX1_comeUp_204 ?_
  refine V_iload C 2 dX1_comeUp_207 rfl ?_
  have g2 : ¬ (ob ((up σ 31 (s1).toNatClampNeg s0).1 27 8) 5) := fun g9 => by rw [if_pos g9] at h; cases h
  rw [if_neg g2] at h
  refine V_zastO C oX_32 g2 dX1_comeUp_209 ?_
  refine V_aload_n C 0 dX1_comeUp_210 rfl rfl ?_
  refine fg1_32 (r := 33) C oX_27 rfl dX1_comeUp_211 ?_
  refine V_aload_n C 0 dX1_comeUp_214 rfl rfl ?_
  refine fg1_35 C oX_27 dX1_comeUp_215 ?_
  refine V_iload C 3 dX1_comeUp_218 rfl ?_
  have g3 : ¬ (ob ((up (up σ 31 (s1).toNatClampNeg s0) 32 (((up σ 31 (s1).toNatClampNeg s0).1 27 8)).toNatClampNeg (vp_nar .boolean l4)).1 27 8) 5) := fun g9 => by rw [if_pos g9] at h; cases h
  rw [if_neg g3] at h
  refine V_zastO C oX_33 g3 dX1_comeUp_220 ?_
  refine V_aload_n C 0 dX1_comeUp_221 rfl rfl ?_
  refine V_dup C dX1_comeUp_222 rfl ?_
  refine fg1_35 C oX_27 dX1_comeUp_223 ?_
  refine V_iconst C (w := 1) dX1_comeUp_226 (by decide) ?_
  refine V_iadd C dX1_comeUp_227 ?_
  refine fp1_35 C oX_27 dX1_comeUp_228 ?_
  refine V_aload_n C 0 dX1_comeUp_231 rfl rfl ?_
  refine V_dup C dX1_comeUp_232 rfl ?_
  refine fg1_39 C oX_27 dX1_comeUp_233 ?_
  refine V_iconst C (w := 1) dX1_comeUp_236 (by decide) ?_
  refine V_iload_n C 1 dX1_comeUp_237 rfl rfl ?_
  refine V_ishl C dX1_comeUp_238 ?_
  refine V_ior C dX1_comeUp_239 ?_
  refine fp1_39 C oX_27 dX1_comeUp_240 ?_
  refine V_iconst C (w := 1) dX1_comeUp_243 (by decide) ?_
  obtain rfl := Option.some.inj h
  exact V_iret C rfl (nz (Or.inr rfl)) dX1_comeUp_244
def X1_comeUp_b138 (l1 : Int32) (l4 : Int32) (s0 : Int32) (σ : St) : Option (Int32 × St) := if ob (σ.1 27 8) 5 then none else (if ob ((up σ 29 ((σ.1 27 8)).toNatClampNeg l1).1 27 8) 5 then none else (if s0 = 0 then (X1_comeUp_b198 l1 l4 s0 ((up (up σ 29 ((σ.1 27 8)).toNatClampNeg l1) 30 (((up σ 29 ((σ.1 27 8)).toNatClampNeg l1).1 27 8)).toNatClampNeg ((up σ 29 ((σ.1 27 8)).toNatClampNeg l1).1 28 0)).1 28 2) ((up (up σ 29 ((σ.1 27 8)).toNatClampNeg l1) 30 (((up σ 29 ((σ.1 27 8)).toNatClampNeg l1).1 27 8)).toNatClampNeg ((up σ 29 ((σ.1 27 8)).toNatClampNeg l1).1 28 0)).1 27 8) (up (up σ 29 ((σ.1 27 8)).toNatClampNeg l1) 30 (((up σ 29 ((σ.1 27 8)).toNatClampNeg l1).1 27 8)).toNatClampNeg ((up σ 29 ((σ.1 27 8)).toNatClampNeg l1).1 28 0))) else (X1_comeUp_b198 l1 l4 s0 (((up (up σ 29 ((σ.1 27 8)).toNatClampNeg l1) 30 (((up σ 29 ((σ.1 27 8)).toNatClampNeg l1).1 27 8)).toNatClampNeg ((up σ 29 ((σ.1 27 8)).toNatClampNeg l1).1 28 0)).1 28 2) / 2) ((up (up σ 29 ((σ.1 27 8)).toNatClampNeg l1) 30 (((up σ 29 ((σ.1 27 8)).toNatClampNeg l1).1 27 8)).toNatClampNeg ((up σ 29 ((σ.1 27 8)).toNatClampNeg l1).1 28 0)).1 27 8) (up (up σ 29 ((σ.1 27 8)).toNatClampNeg l1) 30 (((up σ 29 ((σ.1 27 8)).toNatClampNeg l1).1 27 8)).toNatClampNeg ((up σ 29 ((σ.1 27 8)).toNatClampNeg l1).1 28 0)))))
set_option maxRecDepth 100000 in
set_option maxHeartbeats 4000000 in
theorem X1_comeUp_b138_ok {G : Gx} {p : Program} {l : Launch} {e : Env} {d : Nat} {s : State} {m : MethodId} {args : Array Value} {below : List Frame} {meth : Method} {c : Code} {A : Nat → Prop} (C : OK shX G p s m args meth c RX1 cX1_comeUp 6 (some FieldType.boolean) A) (hd : 4 ≤ d) {l1 : Int32} {l4 : Int32} {s0 : Int32} {σ : St} {x : (Int32 × St)} (h : X1_comeUp_b138 l1 l4 s0 σ = some x) : Vw shX G p l e d s m args below meth c 6 A σ 138 [(0, .ref (G.2.1 27)), (1, .int l1), (4, .int l4)] [.int s0] (some (.int x.1)) x.2 := by
  unfold X1_comeUp_b138 at h
  refine V_istore C (lv' := [(5, .int s0), (0, .ref (G.2.1 27)), (1, .int l1), (4, .int l4)]) dX1_comeUp_138 (by decide) rfl ?_
  refine V_aload_n C 1 dX1_comeUp_140 rfl rfl ?_
  refine fg1_18 (r := 29) C oX_27 rfl dX1_comeUp_141 ?_
  refine V_aload_n C 1 dX1_comeUp_144 rfl rfl ?_
  refine fg1_35 C oX_27 dX1_comeUp_145 ?_
  refine V_iload_n C 2 dX1_comeUp_148 rfl rfl ?_
  have g4 : ¬ (ob (σ.1 27 8) 5) := fun g9 => by rw [if_pos g9] at h; cases h
  rw [if_neg g4] at h
  refine V_iastO C oX_29 g4 dX1_comeUp_149 ?_
  refine V_aload_n C 1 dX1_comeUp_150 rfl rfl ?_
  refine fg1_22 (r := 30) C oX_27 rfl dX1_comeUp_151 ?_
  refine V_aload_n C 1 dX1_comeUp_154 rfl rfl ?_
  refine fg1_35 C oX_27 dX1_comeUp_155 ?_
  refine V_aload_n C 1 dX1_comeUp_158 rfl rfl ?_
  refine fg1_12 (r := 28) C oX_27 rfl dX1_comeUp_159 ?_
  refine fg1_89 C oX_28 dX1_comeUp_162 ?_
  have g5 : ¬ (ob ((up σ 29 ((σ.1 27 8)).toNatClampNeg l1).1 27 8) 5) := fun g9 => by rw [if_pos g9] at h; cases h
  rw [if_neg g5] at h
  refine V_iastO C oX_30 g5 dX1_comeUp_165 ?_
  refine V_aload_n C 1 dX1_comeUp_166 rfl rfl ?_
  refine fg1_25 (r := 31) C oX_27 rfl dX1_comeUp_167 ?_
  refine V_aload_n C 1 dX1_comeUp_170 rfl rfl ?_
  refine fg1_35 C oX_27 dX1_comeUp_171 ?_
  refine V_iload C 0 dX1_comeUp_174 rfl ?_
  by_cases c6 : s0 = 0
  · rw [if_pos c6] at h
    refine V_if_eqT C 191 dX1_comeUp_176 (by decide) c6 ?_
    refine V_aload_n C 1 dX1_comeUp_191 rfl rfl ?_
    refine fg1_12 (r := 28) C oX_27 rfl dX1_comeUp_192 ?_
    refine fg1_70 C oX_28 dX1_comeUp_195 ?_
    refine V_sub (lv' := [(0, .ref (G.2.1 27)), (1, .int l1), (4, .int l4), (5, .int s0)]) [1, 2, 3, 0] rfl ?_
    exact X1_comeUp_b198_ok C hd h
  · rw [if_neg c6] at h
    refine V_if_eqF C 191 dX1_comeUp_176 (by decide) c6 ?_
    refine V_aload_n C 1 dX1_comeUp_179 rfl rfl ?_
    refine fg1_12 (r := 28) C oX_27 rfl dX1_comeUp_180 ?_
    refine fg1_70 C oX_28 dX1_comeUp_183 ?_
    refine V_iconst C (w := 2) dX1_comeUp_186 (by decide) ?_
    refine V_idiv C dX1_comeUp_187 (by decide) ?_
    refine V_goto C 198 dX1_comeUp_188 (by decide) ?_
    refine V_sub (lv' := [(0, .ref (G.2.1 27)), (1, .int l1), (4, .int l4), (5, .int s0)]) [1, 2, 3, 0] rfl ?_
    exact X1_comeUp_b198_ok C hd h
def X1_comeUp_b103 (l1 : Int32) (s0 : Int32) (σ : St) : Option (Int32 × St) := if s0 = 0 then (X1_comeUp_b138 l1 s0 0 σ) else ((X8_tell (σ.1 1 4) (-18) σ).bind (fun x127 => if x127.1 = 0 then (X1_comeUp_b138 l1 s0 0 x127.2) else (X1_comeUp_b138 l1 s0 1 x127.2)))
set_option maxRecDepth 100000 in
set_option maxHeartbeats 4000000 in
theorem X1_comeUp_b103_ok {G : Gx} {p : Program} {l : Launch} {e : Env} {d : Nat} {s : State} {m : MethodId} {args : Array Value} {below : List Frame} {meth : Method} {c : Code} {A : Nat → Prop} (C : OK shX G p s m args meth c RX1 cX1_comeUp 6 (some FieldType.boolean) A) (hd : 4 ≤ d) {l1 : Int32} {s0 : Int32} {σ : St} {x : (Int32 × St)} (h : X1_comeUp_b103 l1 s0 σ = some x) : Vw shX G p l e d s m args below meth c 6 A σ 103 [(0, .ref (G.2.1 27)), (1, .int l1)] [.int s0] (some (.int x.1)) x.2 := by
  unfold X1_comeUp_b103 at h
  refine V_istore C (lv' := [(4, .int s0), (0, .ref (G.2.1 27)), (1, .int l1)]) dX1_comeUp_103 (by decide) rfl ?_
  refine V_iload C 0 dX1_comeUp_105 rfl ?_
  by_cases c7 : s0 = 0
  · rw [if_pos c7] at h
    refine V_if_eqT C 137 dX1_comeUp_107 (by decide) c7 ?_
    refine V_iconst C (w := 0) dX1_comeUp_137 (by decide) ?_
    refine V_sub (lv' := [(0, .ref (G.2.1 27)), (1, .int l1), (4, .int s0)]) [1, 2, 0] rfl ?_
    exact X1_comeUp_b138_ok C hd h
  · rw [if_neg c7] at h
    refine V_if_eqF C 137 dX1_comeUp_107 (by decide) c7 ?_
    refine V_aload_n C 1 dX1_comeUp_110 rfl rfl ?_
    refine fg1_46 (r := 13) C oX_27 rfl dX1_comeUp_111 ?_
    refine V_aload_n C 1 dX1_comeUp_114 rfl rfl ?_
    refine fg1_42 (r := 1) C oX_27 rfl dX1_comeUp_115 ?_
    refine fg1_80 C oX_1 dX1_comeUp_118 ?_
    refine V_bipush C (w := (-18)) dX1_comeUp_121 (by decide) ?_
    refine V_aload_n C 1 dX1_comeUp_123 rfl rfl ?_
    refine fg1_12 (r := 28) C oX_27 rfl dX1_comeUp_124 ?_
    obtain ⟨x127, h127, h⟩ := Option.bind_eq_some_iff.mp h
    refine V_callVi (As := [.int (σ.1 1 4), .int (-18), .ref (G.2.1 28)]) C (X8_tell_ok h127) mw_X8_tell.1 mw_X8_tell.2.1 mw_X8_tell.2.2 q1_83 oX_13.1 oX_13.2.1 (by decide) rfl rfl (by omega) rfl rfl rfl (Nat.le_of_ble_eq_true rfl) dX1_comeUp_127 ?_
    by_cases c8 : x127.1 = 0
    · rw [if_pos c8] at h
      refine V_if_eqT C 137 dX1_comeUp_130 (by decide) c8 ?_
      refine V_iconst C (w := 0) dX1_comeUp_137 (by decide) ?_
      refine V_sub (lv' := [(0, .ref (G.2.1 27)), (1, .int l1), (4, .int s0)]) [1, 2, 0] rfl ?_
      exact X1_comeUp_b138_ok C hd h
    · rw [if_neg c8] at h
      refine V_if_eqF C 137 dX1_comeUp_130 (by decide) c8 ?_
      refine V_iconst C (w := 1) dX1_comeUp_133 (by decide) ?_
      refine V_goto C 138 dX1_comeUp_134 (by decide) ?_
      refine V_sub (lv' := [(0, .ref (G.2.1 27)), (1, .int l1), (4, .int s0)]) [1, 2, 0] rfl ?_
      exact X1_comeUp_b138_ok C hd h
def X1_comeUp (l1 : Int32) (σ : St) : Option (Int32 × St) := (X5_has 1 l1 σ).bind (fun x5 => if x5 = 0 then (some (0, σ)) else ((X1_hasCome l1 σ).bind (fun x13 => if x13 = 0 then (if (σ.1 27 8) < 0 then (some (0, σ)) else (if (σ.1 27 8) < 5 then ((X1_hear l1 σ).bind (fun x38 => (X1_cools x38).bind (fun x42 => (X1_warms x42.2).bind (fun x47 => (X9_within ((x47.2.1 28 2) - x42.1) 0 99).bind (fun x67 => (X9_within (x67 + x47.1) 0 99).bind (fun x75 => if ((up x47.2 28 2 x75).1 28 2) < ((up x47.2 28 2 x75).1 1 1) then (X1_comeUp_b103 l1 0 (up x47.2 28 2 x75)) else (X1_comeUp_b103 l1 1 (up x47.2 28 2 x75)))))))) else (some (0, σ)))) else (some (0, σ)))))
set_option maxRecDepth 100000 in
set_option maxHeartbeats 4000000 in
theorem X1_comeUp_ok {l1 : Int32} {σ : St} {x : (Int32 × St)} (h : X1_comeUp l1 σ = some x) : Ct shX (4) yX1_comeUp cX1_comeUp 6 (some FieldType.boolean) (fun G => [.ref (G.2.1 27), .int l1]) σ (fun G => some (.int x.1)) x.2 := by
  refine Ct.of mw_X1_comeUp.1 (by decide +kernel) (fun G => Nat.le_of_ble_eq_true rfl) (fun G p l e d s m args below meth c A hd C => ?_)
  refine (?_ : Vw shX G p l e d s m args below meth c 6 A σ 0 [(0, .ref (G.2.1 27)), (1, .int l1)] [] (some (.int x.1)) x.2)
  unfold X1_comeUp at h
  refine V_aload_n C 0 dX1_comeUp_0 rfl rfl ?_
  refine fg1_42 (r := 1) C oX_27 rfl dX1_comeUp_1 ?_
  refine V_iload_n C 1 dX1_comeUp_4 rfl rfl ?_
  obtain ⟨x5, h5, h⟩ := Option.bind_eq_some_iff.mp h
  refine V_callVi (As := [.int l1]) C (X5_has_ok h5) mw_X5_has.1 mw_X5_has.2.1 mw_X5_has.2.2 q1_50 oX_1.1 oX_1.2.1 (by decide) rfl rfl (by omega) rfl rfl rfl (Nat.le_of_ble_eq_true rfl) dX1_comeUp_5 ?_
  by_cases c9 : x5 = 0
  · rw [if_pos c9] at h
    refine V_if_eqT C 34 dX1_comeUp_8 (by decide) c9 ?_
    refine V_iconst C (w := 0) dX1_comeUp_34 (by decide) ?_
    obtain rfl := Option.some.inj h
    exact V_iret C rfl (nz (Or.inl rfl)) dX1_comeUp_35
  · rw [if_neg c9] at h
    refine V_if_eqF C 34 dX1_comeUp_8 (by decide) c9 ?_
    refine V_aload_n C 0 dX1_comeUp_11 rfl rfl ?_
    refine V_iload_n C 1 dX1_comeUp_12 rfl rfl ?_
    obtain ⟨x13, h13, h⟩ := Option.bind_eq_some_iff.mp h
    refine V_callVi (As := [.int l1]) C (X1_hasCome_ok h13) mw_X1_hasCome.1 mw_X1_hasCome.2.1 mw_X1_hasCome.2.2 q1_56 oX_27.1 oX_27.2.1 (by decide) rfl rfl (by omega) rfl rfl rfl (Nat.le_of_ble_eq_true rfl) dX1_comeUp_13 ?_
    by_cases c10 : x13 = 0
    · rw [if_pos c10] at h
      refine V_if_neF C 34 dX1_comeUp_16 (by decide) c10 ?_
      refine V_aload_n C 0 dX1_comeUp_19 rfl rfl ?_
      refine fg1_35 C oX_27 dX1_comeUp_20 ?_
      by_cases c11 : (σ.1 27 8) < 0
      · rw [if_pos c11] at h
        refine V_if_ltT C 34 dX1_comeUp_23 (by decide) c11 ?_
        refine V_iconst C (w := 0) dX1_comeUp_34 (by decide) ?_
        obtain rfl := Option.some.inj h
        exact V_iret C rfl (nz (Or.inl rfl)) dX1_comeUp_35
      · rw [if_neg c11] at h
        refine V_if_ltF C 34 dX1_comeUp_23 (by decide) c11 ?_
        refine V_aload_n C 0 dX1_comeUp_26 rfl rfl ?_
        refine fg1_35 C oX_27 dX1_comeUp_27 ?_
        refine V_iconst C (w := 5) dX1_comeUp_30 (by decide) ?_
        by_cases c12 : (σ.1 27 8) < 5
        · rw [if_pos c12] at h
          refine V_icmp_ltT C 36 dX1_comeUp_31 (by decide) c12 ?_
          refine V_aload_n C 0 dX1_comeUp_36 rfl rfl ?_
          refine V_iload_n C 1 dX1_comeUp_37 rfl rfl ?_
          obtain ⟨x38, h38, h⟩ := Option.bind_eq_some_iff.mp h
          refine V_callVv (As := [.int l1]) C (X1_hear_ok h38) mw_X1_hear.1 mw_X1_hear.2.1 mw_X1_hear.2.2 q1_59 oX_27.1 oX_27.2.1 (by decide) rfl rfl (by omega) rfl rfl rfl (Nat.le_of_ble_eq_true rfl) dX1_comeUp_38 ?_
          refine V_aload_n C 0 dX1_comeUp_41 rfl rfl ?_
          obtain ⟨x42, h42, h⟩ := Option.bind_eq_some_iff.mp h
          refine V_callVi (As := []) C (X1_cools_ok h42) mw_X1_cools.1 mw_X1_cools.2.1 mw_X1_cools.2.2 q1_63 oX_27.1 oX_27.2.1 (by decide) rfl rfl (by omega) rfl rfl rfl (Nat.le_of_ble_eq_true rfl) dX1_comeUp_42 ?_
          refine V_istore_n C (lv' := [(2, .int x42.1), (0, .ref (G.2.1 27)), (1, .int l1)]) dX1_comeUp_45 rfl (by decide) rfl ?_
          refine V_aload_n C 1 dX1_comeUp_46 rfl rfl ?_
          obtain ⟨x47, h47, h⟩ := Option.bind_eq_some_iff.mp h
          refine V_callVi (As := []) C (X1_warms_ok h47) mw_X1_warms.1 mw_X1_warms.2.1 mw_X1_warms.2.2 q1_67 oX_27.1 oX_27.2.1 (by decide) rfl rfl (by omega) rfl rfl rfl (Nat.le_of_ble_eq_true rfl) dX1_comeUp_47 ?_
          refine V_istore_n C (lv' := [(3, .int x47.1), (2, .int x42.1), (0, .ref (G.2.1 27)), (1, .int l1)]) dX1_comeUp_50 rfl (by decide) rfl ?_
          refine V_aload_n C 2 dX1_comeUp_51 rfl rfl ?_
          refine fg1_12 (r := 28) C oX_27 rfl dX1_comeUp_52 ?_
          refine V_aload_n C 2 dX1_comeUp_55 rfl rfl ?_
          refine fg1_12 (r := 28) C oX_27 rfl dX1_comeUp_56 ?_
          refine fg1_70 C oX_28 dX1_comeUp_59 ?_
          refine V_iload_n C 1 dX1_comeUp_62 rfl rfl ?_
          refine V_isub C dX1_comeUp_63 ?_
          refine V_iconst C (w := 0) dX1_comeUp_64 (by decide) ?_
          refine V_bipush C (w := 99) dX1_comeUp_65 (by decide) ?_
          obtain ⟨x67, h67, h⟩ := Option.bind_eq_some_iff.mp h
          refine V_callSNi (As := [.int ((x47.2.1 28 2) - x42.1), .int 0, .int 99]) C (X9_within_ok h67) mw_X9_within.1 mw_X9_within.2 qn1_73 (by omega) rfl rfl rfl (Nat.le_of_ble_eq_true rfl) dX1_comeUp_67 ?_
          refine V_iload_n C 0 dX1_comeUp_70 rfl rfl ?_
          refine V_iadd C dX1_comeUp_71 ?_
          refine V_iconst C (w := 0) dX1_comeUp_72 (by decide) ?_
          refine V_bipush C (w := 99) dX1_comeUp_73 (by decide) ?_
          obtain ⟨x75, h75, h⟩ := Option.bind_eq_some_iff.mp h
          refine V_callSNi (As := [.int (x67 + x47.1), .int 0, .int 99]) C (X9_within_ok h75) mw_X9_within.1 mw_X9_within.2 qn1_73 (by omega) rfl rfl rfl (Nat.le_of_ble_eq_true rfl) dX1_comeUp_75 ?_
          refine fp1_70 C oX_28 dX1_comeUp_78 ?_
          refine V_aload_n C 2 dX1_comeUp_81 rfl rfl ?_
          refine fg1_12 (r := 28) C oX_27 rfl dX1_comeUp_82 ?_
          refine fg1_70 C oX_28 dX1_comeUp_85 ?_
          refine V_aload_n C 2 dX1_comeUp_88 rfl rfl ?_
          refine fg1_42 (r := 1) C oX_27 rfl dX1_comeUp_89 ?_
          refine fg1_77 C oX_1 dX1_comeUp_92 ?_
          by_cases c13 : ((up x47.2 28 2 x75).1 28 2) < ((up x47.2 28 2 x75).1 1 1)
          · rw [if_pos c13] at h
            refine V_icmp_ltT C 102 dX1_comeUp_95 (by decide) c13 ?_
            refine V_iconst C (w := 0) dX1_comeUp_102 (by decide) ?_
            refine V_sub (lv' := [(0, .ref (G.2.1 27)), (1, .int l1)]) [2, 3] rfl ?_
            exact X1_comeUp_b103_ok C hd h
          · rw [if_neg c13] at h
            refine V_icmp_ltF C 102 dX1_comeUp_95 (by decide) c13 ?_
            refine V_iconst C (w := 1) dX1_comeUp_98 (by decide) ?_
            refine V_goto C 103 dX1_comeUp_99 (by decide) ?_
            refine V_sub (lv' := [(0, .ref (G.2.1 27)), (1, .int l1)]) [2, 3] rfl ?_
            exact X1_comeUp_b103_ok C hd h
        · rw [if_neg c12] at h
          refine V_icmp_ltF C 36 dX1_comeUp_31 (by decide) c12 ?_
          refine V_iconst C (w := 0) dX1_comeUp_34 (by decide) ?_
          obtain rfl := Option.some.inj h
          exact V_iret C rfl (nz (Or.inl rfl)) dX1_comeUp_35
    · rw [if_neg c10] at h
      refine V_if_neT C 34 dX1_comeUp_16 (by decide) c10 ?_
      refine V_iconst C (w := 0) dX1_comeUp_34 (by decide) ?_
      obtain rfl := Option.some.inj h
      exact V_iret C rfl (nz (Or.inl rfl)) dX1_comeUp_35
