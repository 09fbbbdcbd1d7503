def X6_isSort (l0 : Int32) : Option Int32 := if l0 < 0 then (some 0) else (if 2 < l0 then (some 0) else (some 1))
set_option maxRecDepth 100000 in
set_option maxHeartbeats 4000000 in
theorem X6_isSort_ok {l0 : Int32} {σ : St} {x : Int32} (h : X6_isSort l0 = some x) : Ct shX (1) yX6_isSort cX6_isSort 1 (some FieldType.boolean) (fun G => [.int l0]) σ (fun G => some (.int x)) σ := by
  refine Ct.of mw_X6_isSort.1 (by decide +kernel) (fun G => Nat.le_of_ble_eq_true rfl) (fun G p l e d s m args below meth c A hd C => ?_)
  refine (?_ : Vw shX G p l e d s m args below meth c 1 A σ 0 [(0, .int l0)] [] (some (.int x)) σ)
  unfold X6_isSort at h
  refine V_iload_n C 0 dX6_isSort_0 rfl rfl ?_
  by_cases c1 : l0 < 0
  · rw [if_pos c1] at h
    refine V_if_ltT C 13 dX6_isSort_1 (by decide) c1 ?_
    refine V_iconst C (w := 0) dX6_isSort_13 (by decide) ?_
    obtain rfl := Option.some.inj h
    exact V_iret C rfl (nz (Or.inl rfl)) dX6_isSort_14
  · rw [if_neg c1] at h
    refine V_if_ltF C 13 dX6_isSort_1 (by decide) c1 ?_
    refine V_iload_n C 0 dX6_isSort_4 rfl rfl ?_
    refine V_iconst C (w := 2) dX6_isSort_5 (by decide) ?_
    by_cases c2 : 2 < l0
    · rw [if_pos c2] at h
      refine V_icmp_gtT C 13 dX6_isSort_6 (by decide) c2 ?_
      refine V_iconst C (w := 0) dX6_isSort_13 (by decide) ?_
      obtain rfl := Option.some.inj h
      exact V_iret C rfl (nz (Or.inl rfl)) dX6_isSort_14
    · rw [if_neg c2] at h
      refine V_icmp_gtF C 13 dX6_isSort_6 (by decide) c2 ?_
      refine V_iconst C (w := 1) dX6_isSort_9 (by decide) ?_
      refine V_goto C 14 dX6_isSort_10 (by decide) ?_
      obtain rfl := Option.some.inj h
      exact V_iret C rfl (nz (Or.inr rfl)) dX6_isSort_14
def X6_isMissing (l0 : Nat) (σ : St) : Option Int32 := if isO shX l0 6 3 then (if (σ.1 l0 1) = (-1) then (some 1) else (some 0)) else none
set_option maxRecDepth 100000 in
set_option maxHeartbeats 4000000 in
theorem X6_isMissing_ok {l0 : Nat} {σ : St} {x : Int32} (h : X6_isMissing l0 σ = some x) : Ct shX (1) yX6_isMissing cX6_isMissing 1 (some FieldType.boolean) (fun G => [.ref (G.2.1 l0)]) σ (fun G => some (.int x)) σ := by
  refine Ct.of mw_X6_isMissing.1 (by decide +kernel) (fun G => Nat.le_of_ble_eq_true rfl) (fun G p l e d s m args below meth c A hd C => ?_)
  refine (?_ : Vw shX G p l e d s m args below meth c 1 A σ 0 [(0, .ref (G.2.1 l0))] [] (some (.int x)) σ)
  unfold X6_isMissing at h
  refine V_aload_n C 0 dX6_isMissing_0 rfl rfl ?_
  have g1 : isO shX l0 6 3 := Decidable.byContradiction (fun g9 => by rw [if_neg g9] at h; cases h)
  rw [if_pos g1] at h
  refine fg6_15 C g1 dX6_isMissing_1 ?_
  refine V_iconst C (w := (-1)) dX6_isMissing_4 (by decide) ?_
  by_cases c2 : (σ.1 l0 1) = (-1)
  · rw [if_pos c2] at h
    refine V_icmp_neF C 12 dX6_isMissing_5 (by decide) c2 ?_
    refine V_iconst C (w := 1) dX6_isMissing_8 (by decide) ?_
    refine V_goto C 13 dX6_isMissing_9 (by decide) ?_
    obtain rfl := Option.some.inj h
    exact V_iret C rfl (nz (Or.inr rfl)) dX6_isMissing_13
  · rw [if_neg c2] at h
    refine V_icmp_neT C 12 dX6_isMissing_5 (by decide) c2 ?_
    refine V_iconst C (w := 0) dX6_isMissing_12 (by decide) ?_
    obtain rfl := Option.some.inj h
    exact V_iret C rfl (nz (Or.inl rfl)) dX6_isMissing_13
def X6_become_b18 : Nat → Nat → Int32 → St → Option St
  | 0, _, _, _ => none
  | F + 1, l0, l3, σ => if isO shX l0 6 3 then (if isA shX (rfX l0 0) 20 then (if (Int32.ofNat (lnX (rfX l0 0))) ≤ l3 then (some σ) else (if ob l3 (lnX (rfX l0 0)) then none else (X6_become_b18 F l0 (l3 + 1) (up σ (rfX l0 0) (l3).toNatClampNeg 0)))) else none) else none
set_option maxRecDepth 100000 in
set_option maxHeartbeats 4000000 in
theorem X6_become_b18_ok {G : Gx} {p : Program} {l : Launch} {e : Env} {d : Nat} {s : State} {m : MethodId} {args : Array Value} {below : List Frame} {meth : Method} {c : Code} {A : Nat → Prop} (C : OK shX G p s m args meth c RX6 cX6_become 4 none A) (hd : 2 ≤ d) : ∀ (F : Nat) {l0 : Nat} {l3 : Int32} {σ : St} {x : St} (h : X6_become_b18 F l0 l3 σ = some x), Vw shX G p l e d s m args below meth c 4 A σ 18 [(0, .ref (G.2.1 l0)), (3, .int l3)] [] (none) x := by
  intro F
  induction F with
  | zero =>
    intro l0 l3 σ x h
    rw [X6_become_b18] at h
    cases h
  | succ F ih =>
    intro l0 l3 σ x h
    rw [X6_become_b18] at h
    refine V_iload_n C 1 dX6_become_18 rfl rfl ?_
    refine V_aload_n C 0 dX6_become_19 rfl rfl ?_
    have g1 : isO shX l0 6 3 := Decidable.byContradiction (fun g9 => by rw [if_neg g9] at h; cases h)
    rw [if_pos g1] at h
    refine fg6_9 (r := (rfX l0 0)) C g1 rfl dX6_become_20 ?_
    have g2 : isA shX (rfX l0 0) 20 := Decidable.byContradiction (fun g9 => by rw [if_neg g9] at h; cases h)
    rw [if_pos g2] at h
    refine V_alenI C g2.1 g2.2 rfl dX6_become_23 ?_
    by_cases c3 : (Int32.ofNat (lnX (rfX l0 0))) ≤ l3
    · rw [if_pos c3] at h
      refine V_icmp_geT C 40 dX6_become_24 (by decide) c3 ?_
      obtain rfl := Option.some.inj h
      exact V_vret C rfl dX6_become_40
    · rw [if_neg c3] at h
      refine V_icmp_geF C 40 dX6_become_24 (by decide) c3 ?_
      refine V_aload_n C 0 dX6_become_27 rfl rfl ?_
      refine fg6_9 (r := (rfX l0 0)) C g1 rfl dX6_become_28 ?_
      refine V_iload_n C 1 dX6_become_31 rfl rfl ?_
      refine V_iconst C (w := 0) dX6_become_32 (by decide) ?_
      have g4 : ¬ (ob l3 (lnX (rfX l0 0))) := fun g9 => by rw [if_pos g9] at h; cases h
      rw [if_neg g4] at h
      refine V_iastA C g2 g4 dX6_become_33 ?_
      refine V_iinc C (w := (l3 + 1)) (lv' := [(3, .int (l3 + 1)), (0, .ref (G.2.1 l0))]) 1 dX6_become_34 rfl (congrArg (l3 + ·) (show Int32.ofInt 1 = 1 by decide)) (by decide) rfl ?_
      refine V_goto C 18 dX6_become_37 (by decide) ?_
      refine V_sub (lv' := [(0, .ref (G.2.1 l0)), (3, .int (l3 + 1))]) [1, 0] rfl ?_
      exact ih h
def X6_become (l0 : Nat) (l1 : Int32) (l2 : Int32) (σ : St) : Option St := if isO shX l0 6 3 then ((X9_within l2 0 40).bind (fun x10 => X6_become_b18 FU l0 0 (up (up σ l0 1 l1) l0 2 x10))) else none
set_option maxRecDepth 100000 in
set_option maxHeartbeats 4000000 in
theorem X6_become_ok {l0 : Nat} {l1 : Int32} {l2 : Int32} {σ : St} {x : St} (h : X6_become l0 l1 l2 σ = some x) : Ct shX (2) yX6_become cX6_become 4 none (fun G => [.ref (G.2.1 l0), .int l1, .int l2]) σ (fun G => none) x := by
  refine Ct.of mw_X6_become.1 (by decide +kernel) (fun G => Nat.le_of_ble_eq_true rfl) (fun G p l e d s m args below meth c A hd C => ?_)
  refine (?_ : Vw shX G p l e d s m args below meth c 4 A σ 0 [(0, .ref (G.2.1 l0)), (1, .int l1), (2, .int l2)] [] (none) x)
  unfold X6_become at h
  refine V_aload_n C 0 dX6_become_0 rfl rfl ?_
  refine V_iload_n C 1 dX6_become_1 rfl rfl ?_
  have g5 : isO shX l0 6 3 := Decidable.byContradiction (fun g9 => by rw [if_neg g9] at h; cases h)
  rw [if_pos g5] at h
  refine fp6_15 C g5 dX6_become_2 ?_
  refine V_aload_n C 0 dX6_become_5 rfl rfl ?_
  refine V_iload_n C 2 dX6_become_6 rfl rfl ?_
  refine V_iconst C (w := 0) dX6_become_7 (by decide) ?_
  refine V_bipush C (w := 40) dX6_become_8 (by decide) ?_
  obtain ⟨x10, h10, h⟩ := Option.bind_eq_some_iff.mp h
  refine V_callSNi (As := [.int l2, .int 0, .int 40]) C (X9_within_ok h10) mw_X9_within.1 mw_X9_within.2 qn6_22 (by omega) rfl rfl rfl (Nat.le_of_ble_eq_true rfl) dX6_become_10 ?_
  refine fp6_19 C g5 dX6_become_13 ?_
  refine V_iconst C (w := 0) dX6_become_16 (by decide) ?_
  refine V_istore_n C (lv' := [(3, .int 0), (0, .ref (G.2.1 l0)), (1, .int l1), (2, .int l2)]) dX6_become_17 rfl (by decide) rfl ?_
  refine V_sub (lv' := [(0, .ref (G.2.1 l0)), (3, .int 0)]) [1, 0] rfl ?_
  exact X6_become_b18_ok C hd FU h
def X6_spans (l0 : Nat) (l1 : Int32) (l2 : Int32) (σ : St) : Option Int32 := if l1 < 0 then (some 0) else (if l2 < 0 then (some 0) else (if isO shX l0 6 3 then (if (σ.1 l0 2) < l2 then (some 0) else (if ((σ.1 l0 2) - l2) < l1 then (some 0) else (some 1))) else none))
set_option maxRecDepth 100000 in
set_option maxHeartbeats 4000000 in
theorem X6_spans_ok {l0 : Nat} {l1 : Int32} {l2 : Int32} {σ : St} {x : Int32} (h : X6_spans l0 l1 l2 σ = some x) : Ct shX (1) yX6_spans cX6_spans 3 (some FieldType.boolean) (fun G => [.ref (G.2.1 l0), .int l1, .int l2]) σ (fun G => some (.int x)) σ := by
  refine Ct.of mw_X6_spans.1 (by decide +kernel) (fun G => Nat.le_of_ble_eq_true rfl) (fun G p l e d s m args below meth c A hd C => ?_)
  refine (?_ : Vw shX G p l e d s m args below meth c 3 A σ 0 [(0, .ref (G.2.1 l0)), (1, .int l1), (2, .int l2)] [] (some (.int x)) σ)
  unfold X6_spans at h
  refine V_iload_n C 1 dX6_spans_0 rfl rfl ?_
  by_cases c1 : l1 < 0
  · rw [if_pos c1] at h
    refine V_if_ltT C 30 dX6_spans_1 (by decide) c1 ?_
    refine V_iconst C (w := 0) dX6_spans_30 (by decide) ?_
    obtain rfl := Option.some.inj h
    exact V_iret C rfl (nz (Or.inl rfl)) dX6_spans_31
  · rw [if_neg c1] at h
    refine V_if_ltF C 30 dX6_spans_1 (by decide) c1 ?_
    refine V_iload_n C 2 dX6_spans_4 rfl rfl ?_
    by_cases c2 : l2 < 0
    · rw [if_pos c2] at h
      refine V_if_ltT C 30 dX6_spans_5 (by decide) c2 ?_
      refine V_iconst C (w := 0) dX6_spans_30 (by decide) ?_
      obtain rfl := Option.some.inj h
      exact V_iret C rfl (nz (Or.inl rfl)) dX6_spans_31
    · rw [if_neg c2] at h
      refine V_if_ltF C 30 dX6_spans_5 (by decide) c2 ?_
      refine V_iload_n C 2 dX6_spans_8 rfl rfl ?_
      refine V_aload_n C 0 dX6_spans_9 rfl rfl ?_
      have g3 : isO shX l0 6 3 := Decidable.byContradiction (fun g9 => by rw [if_neg g9] at h; cases h)
      rw [if_pos g3] at h
      refine fg6_19 C g3 dX6_spans_10 ?_
      by_cases c4 : (σ.1 l0 2) < l2
      · rw [if_pos c4] at h
        refine V_icmp_gtT C 30 dX6_spans_13 (by decide) c4 ?_
        refine V_iconst C (w := 0) dX6_spans_30 (by decide) ?_
        obtain rfl := Option.some.inj h
        exact V_iret C rfl (nz (Or.inl rfl)) dX6_spans_31
      · rw [if_neg c4] at h
        refine V_icmp_gtF C 30 dX6_spans_13 (by decide) c4 ?_
        refine V_iload_n C 1 dX6_spans_16 rfl rfl ?_
        refine V_aload_n C 0 dX6_spans_17 rfl rfl ?_
        refine fg6_19 C g3 dX6_spans_18 ?_
        refine V_iload_n C 2 dX6_spans_21 rfl rfl ?_
        refine V_isub C dX6_spans_22 ?_
        by_cases c5 : ((σ.1 l0 2) - l2) < l1
        · rw [if_pos c5] at h
          refine V_icmp_gtT C 30 dX6_spans_23 (by decide) c5 ?_
          refine V_iconst C (w := 0) dX6_spans_30 (by decide) ?_
          obtain rfl := Option.some.inj h
          exact V_iret C rfl (nz (Or.inl rfl)) dX6_spans_31
        · rw [if_neg c5] at h
          refine V_icmp_gtF C 30 dX6_spans_23 (by decide) c5 ?_
          refine V_iconst C (w := 1) dX6_spans_26 (by decide) ?_
          refine V_goto C 31 dX6_spans_27 (by decide) ?_
          obtain rfl := Option.some.inj h
          exact V_iret C rfl (nz (Or.inr rfl)) dX6_spans_31
def X6_put_b52 (s0 : Int32) (s1 : Int32) (s2 : Nat) (σ : St) : Option St := if isA shX s2 20 then (if ob s1 (lnX s2) then none else (some (up σ s2 (s1).toNatClampNeg s0))) else none
set_option maxRecDepth 100000 in
set_option maxHeartbeats 4000000 in
theorem X6_put_b52_ok {G : Gx} {p : Program} {l : Launch} {e : Env} {d : Nat} {s : State} {m : MethodId} {args : Array Value} {below : List Frame} {meth : Method} {c : Code} {A : Nat → Prop} (C : OK shX G p s m args meth c RX6 cX6_put 3 none A) (hd : 1 ≤ d) {s0 : Int32} {s1 : Int32} {s2 : Nat} {σ : St} {x : St} (h : X6_put_b52 s0 s1 s2 σ = some x) : Vw shX G p l e d s m args below meth c 3 A σ 52 [] [.int s0, .int s1, .ref (G.2.1 s2)] (none) x := by
  unfold X6_put_b52 at h
  have g1 : isA shX s2 20 := Decidable.byContradiction (fun g9 => by rw [if_neg g9] at h; cases h)
  rw [if_pos g1] at h
  have g2 : ¬ (ob s1 (lnX s2)) := fun g9 => by rw [if_pos g9] at h; cases h
  rw [if_neg g2] at h
  refine V_iastA C g1 g2 dX6_put_52 ?_
  obtain rfl := Option.some.inj h
  exact V_vret C rfl dX6_put_53
def X6_put (l0 : Nat) (l1 : Int32) (l2 : Int32) (σ : St) : Option St := if l1 < 0 then (some σ) else (if isO shX l0 6 3 then (if (σ.1 l0 2) ≤ l1 then (some σ) else (if isA shX (rfX l0 0) 20 then (if (Int32.ofNat (lnX (rfX l0 0))) ≤ l1 then (some σ) else (if (σ.1 l0 1) = 0 then (X6_put_b52 ((Int32.toInt8 l2).toInt32) l1 (rfX l0 0) σ) else (if (σ.1 l0 1) = 1 then (X6_put_b52 ((Int32.toInt16 l2).toInt32) l1 (rfX l0 0) σ) else (X6_put_b52 l2 l1 (rfX l0 0) σ)))) else none)) else none)
set_option maxRecDepth 100000 in
set_option maxHeartbeats 4000000 in
theorem X6_put_ok {l0 : Nat} {l1 : Int32} {l2 : Int32} {σ : St} {x : St} (h : X6_put l0 l1 l2 σ = some x) : Ct shX (1) yX6_put cX6_put 3 none (fun G => [.ref (G.2.1 l0), .int l1, .int l2]) σ (fun G => none) x := by
  refine Ct.of mw_X6_put.1 (by decide +kernel) (fun G => Nat.le_of_ble_eq_true rfl) (fun G p l e d s m args below meth c A hd C => ?_)
  refine (?_ : Vw shX G p l e d s m args below meth c 3 A σ 0 [(0, .ref (G.2.1 l0)), (1, .int l1), (2, .int l2)] [] (none) x)
  unfold X6_put at h
  refine V_iload_n C 1 dX6_put_0 rfl rfl ?_
  by_cases c3 : l1 < 0
  · rw [if_pos c3] at h
    refine V_if_ltT C 53 dX6_put_1 (by decide) c3 ?_
    obtain rfl := Option.some.inj h
    exact V_vret C rfl dX6_put_53
  · rw [if_neg c3] at h
    refine V_if_ltF C 53 dX6_put_1 (by decide) c3 ?_
    refine V_iload_n C 1 dX6_put_4 rfl rfl ?_
    refine V_aload_n C 0 dX6_put_5 rfl rfl ?_
    have g4 : isO shX l0 6 3 := Decidable.byContradiction (fun g9 => by rw [if_neg g9] at h; cases h)
    rw [if_pos g4] at h
    refine fg6_19 C g4 dX6_put_6 ?_
    by_cases c5 : (σ.1 l0 2) ≤ l1
    · rw [if_pos c5] at h
      refine V_icmp_geT C 53 dX6_put_9 (by decide) c5 ?_
      obtain rfl := Option.some.inj h
      exact V_vret C rfl dX6_put_53
    · rw [if_neg c5] at h
      refine V_icmp_geF C 53 dX6_put_9 (by decide) c5 ?_
      refine V_iload_n C 1 dX6_put_12 rfl rfl ?_
      refine V_aload_n C 0 dX6_put_13 rfl rfl ?_
      refine fg6_9 (r := (rfX l0 0)) C g4 rfl dX6_put_14 ?_
      have g6 : isA shX (rfX l0 0) 20 := Decidable.byContradiction (fun g9 => by rw [if_neg g9] at h; cases h)
      rw [if_pos g6] at h
      refine V_alenI C g6.1 g6.2 rfl dX6_put_17 ?_
      by_cases c7 : (Int32.ofNat (lnX (rfX l0 0))) ≤ l1
      · rw [if_pos c7] at h
        refine V_icmp_geT C 53 dX6_put_18 (by decide) c7 ?_
        obtain rfl := Option.some.inj h
        exact V_vret C rfl dX6_put_53
      · rw [if_neg c7] at h
        refine V_icmp_geF C 53 dX6_put_18 (by decide) c7 ?_
        refine V_aload_n C 0 dX6_put_21 rfl rfl ?_
        refine fg6_9 (r := (rfX l0 0)) C g4 rfl dX6_put_22 ?_
        refine V_iload_n C 1 dX6_put_25 rfl rfl ?_
        refine V_aload_n C 0 dX6_put_26 rfl rfl ?_
        refine fg6_15 C g4 dX6_put_27 ?_
        by_cases c8 : (σ.1 l0 1) = 0
        · rw [if_pos c8] at h
          refine V_if_neF C 38 dX6_put_30 (by decide) c8 ?_
          refine V_iload_n C 2 dX6_put_33 rfl rfl ?_
          refine V_i2b C dX6_put_34 ?_
          refine V_goto C 52 dX6_put_35 (by decide) ?_
          refine V_sub (lv' := []) [] rfl ?_
          exact X6_put_b52_ok C hd h
        · rw [if_neg c8] at h
          refine V_if_neT C 38 dX6_put_30 (by decide) c8 ?_
          refine V_aload_n C 0 dX6_put_38 rfl rfl ?_
          refine fg6_15 C g4 dX6_put_39 ?_
          refine V_iconst C (w := 1) dX6_put_42 (by decide) ?_
          by_cases c9 : (σ.1 l0 1) = 1
          · rw [if_pos c9] at h
            refine V_icmp_neF C 51 dX6_put_43 (by decide) c9 ?_
            refine V_iload_n C 2 dX6_put_46 rfl rfl ?_
            refine V_i2s C dX6_put_47 ?_
            refine V_goto C 52 dX6_put_48 (by decide) ?_
            refine V_sub (lv' := []) [] rfl ?_
            exact X6_put_b52_ok C hd h
          · rw [if_neg c9] at h
            refine V_icmp_neT C 51 dX6_put_43 (by decide) c9 ?_
            refine V_iload_n C 2 dX6_put_51 rfl rfl ?_
            refine V_sub (lv' := []) [] rfl ?_
            exact X6_put_b52_ok C hd h
def X7_take (l1 : Int32) (σ : St) : Option (Int32 × St) := if (σ.1 11 1) < 0 then (some ((-4), σ)) else (if (σ.1 11 1) < 160 then (if ob (σ.1 11 1) 160 then none else (some (((up (up σ 11 1 ((σ.1 11 1) + 1)) 12 ((σ.1 11 1)).toNatClampNeg l1).1 11 1), (up (up σ 11 1 ((σ.1 11 1) + 1)) 12 ((σ.1 11 1)).toNatClampNeg l1)))) else (some ((-4), σ)))
set_option maxRecDepth 100000 in
set_option maxHeartbeats 4000000 in
theorem X7_take_ok {l1 : Int32} {σ : St} {x : (Int32 × St)} (h : X7_take l1 σ = some x) : Ct shX (1) yX7_take cX7_take 2 (some FieldType.int) (fun G => [.ref (G.2.1 11), .int l1]) σ (fun G => some (.int x.1)) x.2 := by
  refine Ct.of mw_X7_take.1 (by decide +kernel) (fun G => Nat.le_of_ble_eq_true rfl) (fun G p l e d s m args below meth c A hd C => ?_)
  refine (?_ : Vw shX G p l e d s m args below meth c 2 A σ 0 [(0, .ref (G.2.1 11)), (1, .int l1)] [] (some (.int x.1)) x.2)
  unfold X7_take at h
  refine V_aload_n C 0 dX7_take_0 rfl rfl ?_
  refine fg7_15 C oX_11 dX7_take_1 ?_
  by_cases c1 : (σ.1 11 1) < 0
  · rw [if_pos c1] at h
    refine V_if_ltT C 19 dX7_take_4 (by decide) c1 ?_
    refine V_bipush C (w := (-4)) dX7_take_19 (by decide) ?_
    obtain rfl := Option.some.inj h
    exact V_iret C rfl rfl dX7_take_21
  · rw [if_neg c1] at h
    refine V_if_ltF C 19 dX7_take_4 (by decide) c1 ?_
    refine V_aload_n C 0 dX7_take_7 rfl rfl ?_
    refine fg7_15 C oX_11 dX7_take_8 ?_
    refine V_aload_n C 0 dX7_take_11 rfl rfl ?_
    refine fg7_9 (r := 12) C oX_11 rfl dX7_take_12 ?_
    refine V_alenI C oX_12.1 oX_12.2.1 (w := 160) rfl dX7_take_15 ?_
    by_cases c2 : (σ.1 11 1) < 160
    · rw [if_pos c2] at h
      refine V_icmp_ltT C 22 dX7_take_16 (by decide) c2 ?_
      refine V_aload_n C 0 dX7_take_22 rfl rfl ?_
      refine fg7_9 (r := 12) C oX_11 rfl dX7_take_23 ?_
      refine V_aload_n C 0 dX7_take_26 rfl rfl ?_
      refine V_dup C dX7_take_27 rfl ?_
      refine fg7_15 C oX_11 dX7_take_28 ?_
      refine V_dup_x1 C dX7_take_31 rfl rfl ?_
      refine V_iconst C (w := 1) dX7_take_32 (by decide) ?_
      refine V_iadd C dX7_take_33 ?_
      refine fp7_15 C oX_11 dX7_take_34 ?_
      refine V_iload_n C 1 dX7_take_37 rfl rfl ?_
      have g3 : ¬ (ob (σ.1 11 1) 160) := fun g9 => by rw [if_pos g9] at h; cases h
      rw [if_neg g3] at h
      refine V_iastO C oX_12 g3 dX7_take_38 ?_
      refine V_aload_n C 0 dX7_take_39 rfl rfl ?_
      refine fg7_15 C oX_11 dX7_take_40 ?_
      obtain rfl := Option.some.inj h
      exact V_iret C rfl rfl dX7_take_43
    · rw [if_neg c2] at h
      refine V_icmp_ltF C 22 dX7_take_16 (by decide) c2 ?_
      refine V_bipush C (w := (-4)) dX7_take_19 (by decide) ?_
      obtain rfl := Option.some.inj h
      exact V_iret C rfl rfl dX7_take_21
def X9_mayBe (l0 : Int32) (l1 : Int32) : Option Int32 := if l0 < 0 then (some 0) else (if 7 ≤ l0 then (some 0) else (if 7 ≤ l0 then (some 0) else (if ob l0 7 then none else (if l1 < (stv 0 l0) then (some 0) else (if ob l0 7 then none else (if (stv 1 l0) < l1 then (some 0) else (some 1)))))))
set_option maxRecDepth 100000 in
set_option maxHeartbeats 4000000 in
theorem X9_mayBe_ok {l0 : Int32} {l1 : Int32} {σ : St} {x : Int32} (h : X9_mayBe l0 l1 = some x) : Ct shX (1) yX9_mayBe cX9_mayBe 2 (some FieldType.boolean) (fun G => [.int l0, .int l1]) σ (fun G => some (.int x)) σ := by
  refine Ct.of mw_X9_mayBe.1 (by decide +kernel) (fun G => Nat.le_of_ble_eq_true rfl) (fun G p l e d s m args below meth c A hd C => ?_)
  refine (?_ : Vw shX G p l e d s m args below meth c 2 A σ 0 [(0, .int l0), (1, .int l1)] [] (some (.int x)) σ)
  unfold X9_mayBe at h
  refine V_iload_n C 0 dX9_mayBe_0 rfl rfl ?_
  by_cases c1 : l0 < 0
  · rw [if_pos c1] at h
    refine V_if_ltT C 42 dX9_mayBe_1 (by decide) c1 ?_
    refine V_iconst C (w := 0) dX9_mayBe_42 (by decide) ?_
    obtain rfl := Option.some.inj h
    exact V_iret C rfl (nz (Or.inl rfl)) dX9_mayBe_43
  · rw [if_neg c1] at h
    refine V_if_ltF C 42 dX9_mayBe_1 (by decide) c1 ?_
    refine V_iload_n C 0 dX9_mayBe_4 rfl rfl ?_
    refine V_gets (i := 0) C (by decide) qf9_286 dX9_mayBe_5 ?_
    refine V_slen (i := 0) C (by decide) (w := 7) rfl dX9_mayBe_8 ?_
    by_cases c2 : 7 ≤ l0
    · rw [if_pos c2] at h
      refine V_icmp_geT C 42 dX9_mayBe_9 (by decide) c2 ?_
      refine V_iconst C (w := 0) dX9_mayBe_42 (by decide) ?_
      obtain rfl := Option.some.inj h
      exact V_iret C rfl (nz (Or.inl rfl)) dX9_mayBe_43
    · rw [if_neg c2] at h
      refine V_icmp_geF C 42 dX9_mayBe_9 (by decide) c2 ?_
      refine V_iload_n C 0 dX9_mayBe_12 rfl rfl ?_
      refine V_gets (i := 1) C (by decide) qf9_170 dX9_mayBe_13 ?_
      refine V_slen (i := 1) C (by decide) (w := 7) rfl dX9_mayBe_16 ?_
      by_cases c3 : 7 ≤ l0
      · rw [if_pos c3] at h
        refine V_icmp_geT C 42 dX9_mayBe_17 (by decide) c3 ?_
        refine V_iconst C (w := 0) dX9_mayBe_42 (by decide) ?_
        obtain rfl := Option.some.inj h
        exact V_iret C rfl (nz (Or.inl rfl)) dX9_mayBe_43
      · rw [if_neg c3] at h
        refine V_icmp_geF C 42 dX9_mayBe_17 (by decide) c3 ?_
        refine V_iload_n C 1 dX9_mayBe_20 rfl rfl ?_
        refine V_gets (i := 0) C (by decide) qf9_286 dX9_mayBe_21 ?_
        refine V_iload_n C 0 dX9_mayBe_24 rfl rfl ?_
        have g4 : ¬ (ob l0 7) := fun g9 => by rw [if_pos g9] at h; cases h
        rw [if_neg g4] at h
        refine V_sldO (i := 0) C (by decide) rfl g4 dX9_mayBe_25 ?_
        by_cases c5 : l1 < (stv 0 l0)
        · rw [if_pos c5] at h
          refine V_icmp_ltT C 42 dX9_mayBe_26 (by decide) c5 ?_
          refine V_iconst C (w := 0) dX9_mayBe_42 (by decide) ?_
          obtain rfl := Option.some.inj h
          exact V_iret C rfl (nz (Or.inl rfl)) dX9_mayBe_43
        · rw [if_neg c5] at h
          refine V_icmp_ltF C 42 dX9_mayBe_26 (by decide) c5 ?_
          refine V_iload_n C 1 dX9_mayBe_29 rfl rfl ?_
          refine V_gets (i := 1) C (by decide) qf9_170 dX9_mayBe_30 ?_
          refine V_iload_n C 0 dX9_mayBe_33 rfl rfl ?_
          have g6 : ¬ (ob l0 7) := fun g9 => by rw [if_pos g9] at h; cases h
          rw [if_neg g6] at h
          refine V_sldO (i := 1) C (by decide) rfl g6 dX9_mayBe_34 ?_
          by_cases c7 : (stv 1 l0) < l1
          · rw [if_pos c7] at h
            refine V_icmp_gtT C 42 dX9_mayBe_35 (by decide) c7 ?_
            refine V_iconst C (w := 0) dX9_mayBe_42 (by decide) ?_
            obtain rfl := Option.some.inj h
            exact V_iret C rfl (nz (Or.inl rfl)) dX9_mayBe_43
          · rw [if_neg c7] at h
            refine V_icmp_gtF C 42 dX9_mayBe_35 (by decide) c7 ?_
            refine V_iconst C (w := 1) dX9_mayBe_38 (by decide) ?_
            refine V_goto C 43 dX9_mayBe_39 (by decide) ?_
            obtain rfl := Option.some.inj h
            exact V_iret C rfl (nz (Or.inr rfl)) dX9_mayBe_43
def X9_set_b39 (l1 : Int32) (l2 : Int32) (l3 : Int32) (σ : St) : Option (Int32 × St) := (X5_value 1 l1 l2 σ).bind (fun x45 => (X5_change 1 l1 l2 l3 σ).bind (fun x57 => some (x45, x57)))
set_option maxRecDepth 100000 in
set_option maxHeartbeats 4000000 in
theorem X9_set_b39_ok {G : Gx} {p : Program} {l : Launch} {e : Env} {d : Nat} {s : State} {m : MethodId} {args : Array Value} {below : List Frame} {meth : Method} {c : Code} {A : Nat → Prop} (C : OK shX G p s m args meth c RX9 cX9_set 5 (some FieldType.int) A) (hd : 3 ≤ d) {l1 : Int32} {l2 : Int32} {l3 : Int32} {σ : St} {x : (Int32 × St)} (h : X9_set_b39 l1 l2 l3 σ = some x) : Vw shX G p l e d s m args below meth c 5 A σ 39 [(0, .ref (G.2.1 0)), (1, .int l1), (2, .int l2), (3, .int l3)] [] (some (.int x.1)) x.2 := by
  unfold X9_set_b39 at h
  refine V_aload_n C 0 dX9_set_39 rfl rfl ?_
  refine fg9_10 (r := 1) C oX_0 rfl dX9_set_40 ?_
  refine V_iload_n C 1 dX9_set_43 rfl rfl ?_
  refine V_iload_n C 2 dX9_set_44 rfl rfl ?_
  obtain ⟨x45, h45, h⟩ := Option.bind_eq_some_iff.mp h
  refine V_callVi (As := [.int l1, .int l2]) C (X5_value_ok h45) mw_X5_value.1 mw_X5_value.2.1 mw_X5_value.2.2 q9_105 oX_1.1 oX_1.2.1 (by decide) rfl rfl (by omega) rfl rfl rfl (Nat.le_of_ble_eq_true rfl) dX9_set_45 ?_
  refine V_istore C (lv' := [(4, .int x45), (0, .ref (G.2.1 0)), (1, .int l1), (2, .int l2), (3, .int l3)]) dX9_set_48 (by decide) rfl ?_
  refine V_aload_n C 1 dX9_set_50 rfl rfl ?_
  refine fg9_10 (r := 1) C oX_0 rfl dX9_set_51 ?_
  refine V_iload_n C 2 dX9_set_54 rfl rfl ?_
  refine V_iload_n C 3 dX9_set_55 rfl rfl ?_
  refine V_iload_n C 4 dX9_set_56 rfl rfl ?_
  obtain ⟨x57, h57, h⟩ := Option.bind_eq_some_iff.mp h
  refine V_callVv (As := [.int l1, .int l2, .int l3]) C (X5_change_ok h57) mw_X5_change.1 mw_X5_change.2.1 mw_X5_change.2.2 q9_109 oX_1.1 oX_1.2.1 (by decide) rfl rfl (by omega) rfl rfl rfl (Nat.le_of_ble_eq_true rfl) dX9_set_57 ?_
  refine V_iload C 0 dX9_set_60 rfl ?_
  obtain rfl := Option.some.inj h
  exact V_iret C rfl rfl dX9_set_62
def X9_set (l1 : Int32) (l2 : Int32) (l3 : Int32) (σ : St) : Option (Int32 × St) := if l1 < 0 then (some ((-2), σ)) else (if 5 < l1 then (some ((-2), σ)) else ((X9_mayBe l1 l3).bind (fun x11 => if x11 = 0 then (some ((-2), σ)) else (if l1 < 3 then (X9_set_b39 l1 l2 l3 σ) else ((X5_has 1 l2 σ).bind (fun x30 => if x30 = 0 then (some ((-2), σ)) else (X9_set_b39 l1 l2 l3 σ)))))))
set_option maxRecDepth 100000 in
set_option maxHeartbeats 4000000 in
theorem X9_set_ok {l1 : Int32} {l2 : Int32} {l3 : Int32} {σ : St} {x : (Int32 × St)} (h : X9_set l1 l2 l3 σ = some x) : Ct shX (3) yX9_set cX9_set 5 (some FieldType.int) (fun G => [.ref (G.2.1 0), .int l1, .int l2, .int l3]) σ (fun G => some (.int x.1)) x.2 := by
  refine Ct.of mw_X9_set.1 (by decide +kernel) (fun G => Nat.le_of_ble_eq_true rfl) (fun G p l e d s m args below meth c A hd C => ?_)
  refine (?_ : Vw shX G p l e d s m args below meth c 5 A σ 0 [(0, .ref (G.2.1 0)), (1, .int l1), (2, .int l2), (3, .int l3)] [] (some (.int x.1)) x.2)
  unfold X9_set at h
  refine V_iload_n C 1 dX9_set_0 rfl rfl ?_
  by_cases c1 : l1 < 0
  · rw [if_pos c1] at h
    refine V_if_ltT C 17 dX9_set_1 (by decide) c1 ?_
    refine V_bipush C (w := (-2)) dX9_set_17 (by decide) ?_
    obtain rfl := Option.some.inj h
    exact V_iret C rfl rfl dX9_set_19
  · rw [if_neg c1] at h
    refine V_if_ltF C 17 dX9_set_1 (by decide) c1 ?_
    refine V_iload_n C 1 dX9_set_4 rfl rfl ?_
    refine V_iconst C (w := 5) dX9_set_5 (by decide) ?_
    by_cases c2 : 5 < l1
    · rw [if_pos c2] at h
      refine V_icmp_gtT C 17 dX9_set_6 (by decide) c2 ?_
      refine V_bipush C (w := (-2)) dX9_set_17 (by decide) ?_
      obtain rfl := Option.some.inj h
      exact V_iret C rfl rfl dX9_set_19
    · rw [if_neg c2] at h
      refine V_icmp_gtF C 17 dX9_set_6 (by decide) c2 ?_
      refine V_iload_n C 1 dX9_set_9 rfl rfl ?_
      refine V_iload_n C 3 dX9_set_10 rfl rfl ?_
      obtain ⟨x11, h11, h⟩ := Option.bind_eq_some_iff.mp h
      refine V_callSi (As := [.int l1, .int l3]) C (X9_mayBe_ok h11) mw_X9_mayBe.1 mw_X9_mayBe.2 q9_97 (by omega) rfl rfl rfl (Nat.le_of_ble_eq_true rfl) dX9_set_11 ?_
      by_cases c3 : x11 = 0
      · rw [if_pos c3] at h
        refine V_if_neF C 20 dX9_set_14 (by decide) c3 ?_
        refine V_bipush C (w := (-2)) dX9_set_17 (by decide) ?_
        obtain rfl := Option.some.inj h
        exact V_iret C rfl rfl dX9_set_19
      · rw [if_neg c3] at h
        refine V_if_neT C 20 dX9_set_14 (by decide) c3 ?_
        refine V_iload_n C 1 dX9_set_20 rfl rfl ?_
        refine V_iconst C (w := 3) dX9_set_21 (by decide) ?_
        by_cases c4 : l1 < 3
        · rw [if_pos c4] at h
          refine V_icmp_ltT C 39 dX9_set_22 (by decide) c4 ?_
          exact X9_set_b39_ok C hd h
        · rw [if_neg c4] at h
          refine V_icmp_ltF C 39 dX9_set_22 (by decide) c4 ?_
          refine V_aload_n C 0 dX9_set_25 rfl rfl ?_
          refine fg9_10 (r := 1) C oX_0 rfl dX9_set_26 ?_
          refine V_iload_n C 2 dX9_set_29 rfl rfl ?_
          obtain ⟨x30, h30, h⟩ := Option.bind_eq_some_iff.mp h
          refine V_callVi (As := [.int l2]) C (X5_has_ok h30) mw_X5_has.1 mw_X5_has.2.1 mw_X5_has.2.2 q9_101 oX_1.1 oX_1.2.1 (by decide) rfl rfl (by omega) rfl rfl rfl (Nat.le_of_ble_eq_true rfl) dX9_set_30 ?_
          by_cases c5 : x30 = 0
          · rw [if_pos c5] at h
            refine V_if_neF C 39 dX9_set_33 (by decide) c5 ?_
            refine V_bipush C (w := (-2)) dX9_set_36 (by decide) ?_
            obtain rfl := Option.some.inj h
            exact V_iret C rfl rfl dX9_set_38
          · rw [if_neg c5] at h
            refine V_if_neT C 39 dX9_set_33 (by decide) c5 ?_
            exact X9_set_b39_ok C hd h
def X9_guest (l1 : Int32) (l2 : Int32) (l3 : Int32) (σ : St) : Option (Int32 × St) := (X9_mayBe 6 l1).bind (fun x3 => if x3 = 0 then (some ((-2), σ)) else ((X9_mayBe 3 l2).bind (fun x11 => if x11 = 0 then (some ((-2), σ)) else ((X9_mayBe 4 l3).bind (fun x19 => if x19 = 0 then (some ((-2), σ)) else ((X5_welcome 1 l1 l2 l3 σ).bind (fun x35 => some (x35.1, x35.2))))))))
set_option maxRecDepth 100000 in
set_option maxHeartbeats 4000000 in
theorem X9_guest_ok {l1 : Int32} {l2 : Int32} {l3 : Int32} {σ : St} {x : (Int32 × St)} (h : X9_guest l1 l2 l3 σ = some x) : Ct shX (2) yX9_guest cX9_guest 4 (some FieldType.int) (fun G => [.ref (G.2.1 0), .int l1, .int l2, .int l3]) σ (fun G => some (.int x.1)) x.2 := by
  refine Ct.of mw_X9_guest.1 (by decide +kernel) (fun G => Nat.le_of_ble_eq_true rfl) (fun G p l e d s m args below meth c A hd C => ?_)
  refine (?_ : Vw shX G p l e d s m args below meth c 4 A σ 0 [(0, .ref (G.2.1 0)), (1, .int l1), (2, .int l2), (3, .int l3)] [] (some (.int x.1)) x.2)
  unfold X9_guest at h
  refine V_bipush C (w := 6) dX9_guest_0 (by decide) ?_
  refine V_iload_n C 1 dX9_guest_2 rfl rfl ?_
  obtain ⟨x3, h3, h⟩ := Option.bind_eq_some_iff.mp h
  refine V_callSi (As := [.int 6, .int l1]) C (X9_mayBe_ok h3) mw_X9_mayBe.1 mw_X9_mayBe.2 q9_97 (by omega) rfl rfl rfl (Nat.le_of_ble_eq_true rfl) dX9_guest_3 ?_
  by_cases c1 : x3 = 0
  · rw [if_pos c1] at h
    refine V_if_eqT C 25 dX9_guest_6 (by decide) c1 ?_
    refine V_bipush C (w := (-2)) dX9_guest_25 (by decide) ?_
    obtain rfl := Option.some.inj h
    exact V_iret C rfl rfl dX9_guest_27
  · rw [if_neg c1] at h
    refine V_if_eqF C 25 dX9_guest_6 (by decide) c1 ?_
    refine V_iconst C (w := 3) dX9_guest_9 (by decide) ?_
    refine V_iload_n C 2 dX9_guest_10 rfl rfl ?_
    obtain ⟨x11, h11, h⟩ := Option.bind_eq_some_iff.mp h
    refine V_callSi (As := [.int 3, .int l2]) C (X9_mayBe_ok h11) mw_X9_mayBe.1 mw_X9_mayBe.2 q9_97 (by omega) rfl rfl rfl (Nat.le_of_ble_eq_true rfl) dX9_guest_11 ?_
    by_cases c2 : x11 = 0
    · rw [if_pos c2] at h
      refine V_if_eqT C 25 dX9_guest_14 (by decide) c2 ?_
      refine V_bipush C (w := (-2)) dX9_guest_25 (by decide) ?_
      obtain rfl := Option.some.inj h
      exact V_iret C rfl rfl dX9_guest_27
    · rw [if_neg c2] at h
      refine V_if_eqF C 25 dX9_guest_14 (by decide) c2 ?_
      refine V_iconst C (w := 4) dX9_guest_17 (by decide) ?_
      refine V_iload_n C 3 dX9_guest_18 rfl rfl ?_
      obtain ⟨x19, h19, h⟩ := Option.bind_eq_some_iff.mp h
      refine V_callSi (As := [.int 4, .int l3]) C (X9_mayBe_ok h19) mw_X9_mayBe.1 mw_X9_mayBe.2 q9_97 (by omega) rfl rfl rfl (Nat.le_of_ble_eq_true rfl) dX9_guest_19 ?_
      by_cases c3 : x19 = 0
      · rw [if_pos c3] at h
        refine V_if_neF C 28 dX9_guest_22 (by decide) c3 ?_
        refine V_bipush C (w := (-2)) dX9_guest_25 (by decide) ?_
        obtain rfl := Option.some.inj h
        exact V_iret C rfl rfl dX9_guest_27
      · rw [if_neg c3] at h
        refine V_if_neT C 28 dX9_guest_22 (by decide) c3 ?_
        refine V_aload_n C 0 dX9_guest_28 rfl rfl ?_
        refine fg9_10 (r := 1) C oX_0 rfl dX9_guest_29 ?_
        refine V_iload_n C 1 dX9_guest_32 rfl rfl ?_
        refine V_iload_n C 2 dX9_guest_33 rfl rfl ?_
        refine V_iload_n C 3 dX9_guest_34 rfl rfl ?_
        obtain ⟨x35, h35, h⟩ := Option.bind_eq_some_iff.mp h
        refine V_callVi (As := [.int l1, .int l2, .int l3]) C (X5_welcome_ok h35) mw_X5_welcome.1 mw_X5_welcome.2.1 mw_X5_welcome.2.2 q9_113 oX_1.1 oX_1.2.1 (by decide) rfl rfl (by omega) rfl rfl rfl (Nat.le_of_ble_eq_true rfl) dX9_guest_35 ?_
        obtain rfl := Option.some.inj h
        exact V_iret C rfl rfl dX9_guest_38
def X9_told_b34 (l1 : Int32) (l2 : Int32) (σ : St) : Option (Int32 × St) := if 6 < l2 then ((X1_begin σ).bind (fun x54 => (X1_hear l1 x54).bind (fun x62 => if l2 = 7 then ((X1_warms x62).bind (fun x75 => some (x75.1, x75.2))) else ((X1_cools x62).bind (fun x85 => some (x85.1, x85.2)))))) else ((X5_value 1 l2 l1 σ).bind (fun x46 => some (x46, σ)))
set_option maxRecDepth 100000 in
set_option maxHeartbeats 4000000 in
theorem X9_told_b34_ok {G : Gx} {p : Program} {l : Launch} {e : Env} {d : Nat} {s : State} {m : MethodId} {args : Array Value} {below : List Frame} {meth : Method} {c : Code} {A : Nat → Prop} (C : OK shX G p s m args meth c RX9 cX9_told 3 (some FieldType.int) A) (hd : 4 ≤ d) {l1 : Int32} {l2 : Int32} {σ : St} {x : (Int32 × St)} (h : X9_told_b34 l1 l2 σ = some x) : Vw shX G p l e d s m args below meth c 3 A σ 34 [(0, .ref (G.2.1 0)), (1, .int l1), (2, .int l2)] [] (some (.int x.1)) x.2 := by
  unfold X9_told_b34 at h
  refine V_iload_n C 2 dX9_told_34 rfl rfl ?_
  refine V_bipush C (w := 6) dX9_told_35 (by decide) ?_
  by_cases c1 : 6 < l2
  · rw [if_pos c1] at h
    refine V_icmp_gtT C 50 dX9_told_37 (by decide) c1 ?_
    refine V_aload_n C 0 dX9_told_50 rfl rfl ?_
    refine fg9_57 (r := 27) C oX_0 rfl dX9_told_51 ?_
    obtain ⟨x54, h54, h⟩ := Option.bind_eq_some_iff.mp h
    refine V_callVv (As := []) C (X1_begin_ok h54) mw_X1_begin.1 mw_X1_begin.2.1 mw_X1_begin.2.2 q9_117 oX_27.1 oX_27.2.1 (by decide) rfl rfl (by omega) rfl rfl rfl (Nat.le_of_ble_eq_true rfl) dX9_told_54 ?_
    refine V_aload_n C 0 dX9_told_57 rfl rfl ?_
    refine fg9_57 (r := 27) C oX_0 rfl dX9_told_58 ?_
    refine V_iload_n C 1 dX9_told_61 rfl rfl ?_
    obtain ⟨x62, h62, h⟩ := Option.bind_eq_some_iff.mp h
    refine V_callVv (As := [.int l1]) C (X1_hear_ok h62) mw_X1_hear.1 mw_X1_hear.2.1 mw_X1_hear.2.2 q9_120 oX_27.1 oX_27.2.1 (by decide) rfl rfl (by omega) rfl rfl rfl (Nat.le_of_ble_eq_true rfl) dX9_told_62 ?_
    refine V_iload_n C 2 dX9_told_65 rfl rfl ?_
    refine V_bipush C (w := 7) dX9_told_66 (by decide) ?_
    by_cases c2 : l2 = 7
    · rw [if_pos c2] at h
      refine V_icmp_neF C 81 dX9_told_68 (by decide) c2 ?_
      refine V_aload_n C 0 dX9_told_71 rfl rfl ?_
      refine fg9_57 (r := 27) C oX_0 rfl dX9_told_72 ?_
      obtain ⟨x75, h75, h⟩ := Option.bind_eq_some_iff.mp h
      refine V_callVi (As := []) C (X1_warms_ok h75) mw_X1_warms.1 mw_X1_warms.2.1 mw_X1_warms.2.2 q9_124 oX_27.1 oX_27.2.1 (by decide) rfl rfl (by omega) rfl rfl rfl (Nat.le_of_ble_eq_true rfl) dX9_told_75 ?_
      refine V_goto C 88 dX9_told_78 (by decide) ?_
      obtain rfl := Option.some.inj h
      exact V_iret C rfl rfl dX9_told_88
    · rw [if_neg c2] at h
      refine V_icmp_neT C 81 dX9_told_68 (by decide) c2 ?_
      refine V_aload_n C 0 dX9_told_81 rfl rfl ?_
      refine fg9_57 (r := 27) C oX_0 rfl dX9_told_82 ?_
      obtain ⟨x85, h85, h⟩ := Option.bind_eq_some_iff.mp h
      refine V_callVi (As := []) C (X1_cools_ok h85) mw_X1_cools.1 mw_X1_cools.2.1 mw_X1_cools.2.2 q9_127 oX_27.1 oX_27.2.1 (by decide) rfl rfl (by omega) rfl rfl rfl (Nat.le_of_ble_eq_true rfl) dX9_told_85 ?_
      obtain rfl := Option.some.inj h
      exact V_iret C rfl rfl dX9_told_88
  · rw [if_neg c1] at h
    refine V_icmp_gtF C 50 dX9_told_37 (by decide) c1 ?_
    refine V_aload_n C 0 dX9_told_40 rfl rfl ?_
    refine fg9_10 (r := 1) C oX_0 rfl dX9_told_41 ?_
    refine V_iload_n C 2 dX9_told_44 rfl rfl ?_
    refine V_iload_n C 1 dX9_told_45 rfl rfl ?_
    obtain ⟨x46, h46, h⟩ := Option.bind_eq_some_iff.mp h
    refine V_callVi (As := [.int l2, .int l1]) C (X5_value_ok h46) mw_X5_value.1 mw_X5_value.2.1 mw_X5_value.2.2 q9_105 oX_1.1 oX_1.2.1 (by decide) rfl rfl (by omega) rfl rfl rfl (Nat.le_of_ble_eq_true rfl) dX9_told_46 ?_
    obtain rfl := Option.some.inj h
    exact V_iret C rfl rfl dX9_told_49
def X9_told (l1 : Int32) (l2 : Int32) (σ : St) : Option (Int32 × St) := if l2 < 0 then (some ((-1000), σ)) else (if l2 ≤ 8 then (if l2 < 3 then (X9_told_b34 l1 l2 σ) else ((X5_has 1 l1 σ).bind (fun x24 => if x24 = 0 then (some ((-1000), σ)) else (X9_told_b34 l1 l2 σ)))) else (some ((-1000), σ)))
set_option maxRecDepth 100000 in
set_option maxHeartbeats 4000000 in
theorem X9_told_ok {l1 : Int32} {l2 : Int32} {σ : St} {x : (Int32 × St)} (h : X9_told l1 l2 σ = some x) : Ct shX (4) yX9_told cX9_told 3 (some FieldType.int) (fun G => [.ref (G.2.1 0), .int l1, .int l2]) σ (fun G => some (.int x.1)) x.2 := by
  refine Ct.of mw_X9_told.1 (by decide +kernel) (fun G => Nat.le_of_ble_eq_true rfl) (fun G p l e d s m args below meth c A hd C => ?_)
  refine (?_ : Vw shX G p l e d s m args below meth c 3 A σ 0 [(0, .ref (G.2.1 0)), (1, .int l1), (2, .int l2)] [] (some (.int x.1)) x.2)
  unfold X9_told at h
  refine V_iload_n C 2 dX9_told_0 rfl rfl ?_
  by_cases c3 : l2 < 0
  · rw [if_pos c3] at h
    refine V_if_ltT C 10 dX9_told_1 (by decide) c3 ?_
    refine V_sipush C (w := (-1000)) dX9_told_10 (by decide) ?_
    obtain rfl := Option.some.inj h
    exact V_iret C rfl rfl dX9_told_13
  · rw [if_neg c3] at h
    refine V_if_ltF C 10 dX9_told_1 (by decide) c3 ?_
    refine V_iload_n C 2 dX9_told_4 rfl rfl ?_
    refine V_bipush C (w := 8) dX9_told_5 (by decide) ?_
    by_cases c4 : l2 ≤ 8
    · rw [if_pos c4] at h
      refine V_icmp_leT C 14 dX9_told_7 (by decide) c4 ?_
      refine V_iload_n C 2 dX9_told_14 rfl rfl ?_
      refine V_iconst C (w := 3) dX9_told_15 (by decide) ?_
      by_cases c5 : l2 < 3
      · rw [if_pos c5] at h
        refine V_icmp_ltT C 34 dX9_told_16 (by decide) c5 ?_
        exact X9_told_b34_ok C hd h
      · rw [if_neg c5] at h
        refine V_icmp_ltF C 34 dX9_told_16 (by decide) c5 ?_
        refine V_aload_n C 0 dX9_told_19 rfl rfl ?_
        refine fg9_10 (r := 1) C oX_0 rfl dX9_told_20 ?_
        refine V_iload_n C 1 dX9_told_23 rfl rfl ?_
        obtain ⟨x24, h24, h⟩ := Option.bind_eq_some_iff.mp h
        refine V_callVi (As := [.int l1]) C (X5_has_ok h24) mw_X5_has.1 mw_X5_has.2.1 mw_X5_has.2.2 q9_101 oX_1.1 oX_1.2.1 (by decide) rfl rfl (by omega) rfl rfl rfl (Nat.le_of_ble_eq_true rfl) dX9_told_24 ?_
        by_cases c6 : x24 = 0
        · rw [if_pos c6] at h
          refine V_if_neF C 34 dX9_told_27 (by decide) c6 ?_
          refine V_sipush C (w := (-1000)) dX9_told_30 (by decide) ?_
          obtain rfl := Option.some.inj h
          exact V_iret C rfl rfl dX9_told_33
        · rw [if_neg c6] at h
          refine V_if_neT C 34 dX9_told_27 (by decide) c6 ?_
          exact X9_told_b34_ok C hd h
    · rw [if_neg c4] at h
      refine V_icmp_leF C 14 dX9_told_7 (by decide) c4 ?_
      refine V_sipush C (w := (-1000)) dX9_told_10 (by decide) ?_
      obtain rfl := Option.some.inj h
      exact V_iret C rfl rfl dX9_told_13
def X9_feed (l1 : Int32) (σ : St) : Option (Int32 × St) := if l1 < 0 then (some ((-2), σ)) else (if l1 ≤ 255 then ((X7_take l1 σ).bind (fun x19 => some (x19.1, x19.2))) else (some ((-2), σ)))
set_option maxRecDepth 100000 in
set_option maxHeartbeats 4000000 in
theorem X9_feed_ok {l1 : Int32} {σ : St} {x : (Int32 × St)} (h : X9_feed l1 σ = some x) : Ct shX (2) yX9_feed cX9_feed 2 (some FieldType.int) (fun G => [.ref (G.2.1 0), .int l1]) σ (fun G => some (.int x.1)) x.2 := by
  refine Ct.of mw_X9_feed.1 (by decide +kernel) (fun G => Nat.le_of_ble_eq_true rfl) (fun G p l e d s m args below meth c A hd C => ?_)
  refine (?_ : Vw shX G p l e d s m args below meth c 2 A σ 0 [(0, .ref (G.2.1 0)), (1, .int l1)] [] (some (.int x.1)) x.2)
  unfold X9_feed at h
  refine V_iload_n C 1 dX9_feed_0 rfl rfl ?_
  by_cases c1 : l1 < 0
  · rw [if_pos c1] at h
    refine V_if_ltT C 11 dX9_feed_1 (by decide) c1 ?_
    refine V_bipush C (w := (-2)) dX9_feed_11 (by decide) ?_
    obtain rfl := Option.some.inj h
    exact V_iret C rfl rfl dX9_feed_13
  · rw [if_neg c1] at h
    refine V_if_ltF C 11 dX9_feed_1 (by decide) c1 ?_
    refine V_iload_n C 1 dX9_feed_4 rfl rfl ?_
    refine V_sipush C (w := 255) dX9_feed_5 (by decide) ?_
    by_cases c2 : l1 ≤ 255
    · rw [if_pos c2] at h
      refine V_icmp_leT C 14 dX9_feed_8 (by decide) c2 ?_
      refine V_aload_n C 0 dX9_feed_14 rfl rfl ?_
      refine fg9_26 (r := 11) C oX_0 rfl dX9_feed_15 ?_
      refine V_iload_n C 1 dX9_feed_18 rfl rfl ?_
      obtain ⟨x19, h19, h⟩ := Option.bind_eq_some_iff.mp h
      refine V_callVi (As := [.int l1]) C (X7_take_ok h19) mw_X7_take.1 mw_X7_take.2.1 mw_X7_take.2.2 q9_90 oX_11.1 oX_11.2.1 (by decide) rfl rfl (by omega) rfl rfl rfl (Nat.le_of_ble_eq_true rfl) dX9_feed_19 ?_
      obtain rfl := Option.some.inj h
      exact V_iret C rfl rfl dX9_feed_22
    · rw [if_neg c2] at h
      refine V_icmp_leF C 14 dX9_feed_8 (by decide) c2 ?_
      refine V_bipush C (w := (-2)) dX9_feed_11 (by decide) ?_
      obtain rfl := Option.some.inj h
      exact V_iret C rfl rfl dX9_feed_13
def X9_text (σ : St) : Option (Int32 × St) := (X8_isFull σ).bind (fun x4 => if x4 = 0 then ((X2_read σ).bind (fun x19 => some (x19.1, x19.2))) else (some ((-4), σ)))
set_option maxRecDepth 100000 in
set_option maxHeartbeats 4000000 in
theorem X9_text_ok {σ : St} {x : (Int32 × St)} (h : X9_text σ = some x) : Ct shX (68) yX9_text cX9_text 1 (some FieldType.int) (fun G => [.ref (G.2.1 0)]) σ (fun G => some (.int x.1)) x.2 := by
  refine Ct.of mw_X9_text.1 (by decide +kernel) (fun G => Nat.le_of_ble_eq_true rfl) (fun G p l e d s m args below meth c A hd C => ?_)
  refine (?_ : Vw shX G p l e d s m args below meth c 1 A σ 0 [(0, .ref (G.2.1 0))] [] (some (.int x.1)) x.2)
  unfold X9_text at h
  refine V_aload_n C 0 dX9_text_0 rfl rfl ?_
  refine fg9_33 (r := 13) C oX_0 rfl dX9_text_1 ?_
  obtain ⟨x4, h4, h⟩ := Option.bind_eq_some_iff.mp h
  refine V_callVi (As := []) C (X8_isFull_ok h4) mw_X8_isFull.1 mw_X8_isFull.2.1 mw_X8_isFull.2.2 q9_130 oX_13.1 oX_13.2.1 (by decide) rfl rfl (by omega) rfl rfl rfl (Nat.le_of_ble_eq_true rfl) dX9_text_4 ?_
  by_cases c1 : x4 = 0
  · rw [if_pos c1] at h
    refine V_if_eqT C 15 dX9_text_7 (by decide) c1 ?_
    refine V_aload_n C 0 dX9_text_15 rfl rfl ?_
    refine fg9_42 (r := 25) C oX_0 rfl dX9_text_16 ?_
    obtain ⟨x19, h19, h⟩ := Option.bind_eq_some_iff.mp h
    refine V_callVi (As := []) C (X2_read_ok h19) mw_X2_read.1 mw_X2_read.2.1 mw_X2_read.2.2 q9_94 oX_25.1 oX_25.2.1 (by decide) rfl rfl (by omega) rfl rfl rfl (Nat.le_of_ble_eq_true rfl) dX9_text_19 ?_
    obtain rfl := Option.some.inj h
    exact V_iret C rfl rfl dX9_text_22
  · rw [if_neg c1] at h
    refine V_if_eqF C 15 dX9_text_7 (by decide) c1 ?_
    refine V_bipush C (w := (-4)) dX9_text_10 (by decide) ?_
    refine V_goto C 22 dX9_text_12 (by decide) ?_
    obtain rfl := Option.some.inj h
    exact V_iret C rfl rfl dX9_text_22
def X9_force (l1 : Int32) (σ : St) : Option (Int32 × St) := if l1 < 0 then (some ((-2), σ)) else (if l1 < (σ.1 13 5) then (some ((σ.1 1 4), (up σ 1 4 l1))) else (some ((-2), σ)))
set_option maxRecDepth 100000 in
set_option maxHeartbeats 4000000 in
theorem X9_force_ok {l1 : Int32} {σ : St} {x : (Int32 × St)} (h : X9_force l1 σ = some x) : Ct shX (1) yX9_force cX9_force 3 (some FieldType.int) (fun G => [.ref (G.2.1 0), .int l1]) σ (fun G => some (.int x.1)) x.2 := by
  refine Ct.of mw_X9_force.1 (by decide +kernel) (fun G => Nat.le_of_ble_eq_true rfl) (fun G p l e d s m args below meth c A hd C => ?_)
  refine (?_ : Vw shX G p l e d s m args below meth c 3 A σ 0 [(0, .ref (G.2.1 0)), (1, .int l1)] [] (some (.int x.1)) x.2)
  unfold X9_force at h
  refine V_iload_n C 1 dX9_force_0 rfl rfl ?_
  by_cases c1 : l1 < 0
  · rw [if_pos c1] at h
    refine V_if_ltT C 15 dX9_force_1 (by decide) c1 ?_
    refine V_bipush C (w := (-2)) dX9_force_15 (by decide) ?_
    obtain rfl := Option.some.inj h
    exact V_iret C rfl rfl dX9_force_17
  · rw [if_neg c1] at h
    refine V_if_ltF C 15 dX9_force_1 (by decide) c1 ?_
    refine V_iload_n C 1 dX9_force_4 rfl rfl ?_
    refine V_aload_n C 0 dX9_force_5 rfl rfl ?_
    refine fg9_33 (r := 13) C oX_0 rfl dX9_force_6 ?_
    refine fg9_134 C oX_13 dX9_force_9 ?_
    by_cases c2 : l1 < (σ.1 13 5)
    · rw [if_pos c2] at h
      refine V_icmp_ltT C 18 dX9_force_12 (by decide) c2 ?_
      refine V_aload_n C 0 dX9_force_18 rfl rfl ?_
      refine fg9_10 (r := 1) C oX_0 rfl dX9_force_19 ?_
      refine fg9_138 C oX_1 dX9_force_22 ?_
      refine V_istore_n C (lv' := [(2, .int (σ.1 1 4)), (0, .ref (G.2.1 0)), (1, .int l1)]) dX9_force_25 rfl (by decide) rfl ?_
      refine V_aload_n C 1 dX9_force_26 rfl rfl ?_
      refine fg9_10 (r := 1) C oX_0 rfl dX9_force_27 ?_
      refine V_iload_n C 2 dX9_force_30 rfl rfl ?_
      refine fp9_138 C oX_1 dX9_force_31 ?_
      refine V_iload_n C 0 dX9_force_34 rfl rfl ?_
      obtain rfl := Option.some.inj h
      exact V_iret C rfl rfl dX9_force_35
    · rw [if_neg c2] at h
      refine V_icmp_ltF C 18 dX9_force_12 (by decide) c2 ?_
      refine V_bipush C (w := (-2)) dX9_force_15 (by decide) ?_
      obtain rfl := Option.some.inj h
      exact V_iret C rfl rfl dX9_force_17
def X9_sheetOf (l1 : Int32) (σ : St) : Option (Option Nat) := if l1 < 0 then (some none) else (if 4 ≤ l1 then (some none) else (if ob l1 4 then none else (some (some (rfX 26 (l1).toNatClampNeg)))))
set_option maxRecDepth 100000 in
set_option maxHeartbeats 4000000 in
theorem X9_sheetOf_ok {l1 : Int32} {σ : St} {x : (Option Nat)} (h : X9_sheetOf l1 σ = some x) : Ct shX (1) yX9_sheetOf cX9_sheetOf 2 (some (FieldType.object "SamovarOpinions$Sheet")) (fun G => [.ref (G.2.1 0), .int l1]) σ (fun G => some (va_rf (Option.map G.2.1 x))) σ := by
  refine Ct.of mw_X9_sheetOf.1 (by decide +kernel) (fun G => Nat.le_of_ble_eq_true rfl) (fun G p l e d s m args below meth c A hd C => ?_)
  refine (?_ : Vw shX G p l e d s m args below meth c 2 A σ 0 [(0, .ref (G.2.1 0)), (1, .int l1)] [] (some (va_rf (Option.map G.2.1 x))) σ)
  unfold X9_sheetOf at h
  refine V_iload_n C 1 dX9_sheetOf_0 rfl rfl ?_
  by_cases c1 : l1 < 0
  · rw [if_pos c1] at h
    refine V_if_ltT C 22 dX9_sheetOf_1 (by decide) c1 ?_
    refine V_null C dX9_sheetOf_22 ?_
    obtain rfl := Option.some.inj h
    exact V_aret C rfl (by first | exact Or.inl ⟨_, rfl⟩ | exact Or.inr ⟨_, rfl⟩) (Or.inl rfl) dX9_sheetOf_23
  · rw [if_neg c1] at h
    refine V_if_ltF C 22 dX9_sheetOf_1 (by decide) c1 ?_
    refine V_iload_n C 1 dX9_sheetOf_4 rfl rfl ?_
    refine V_aload_n C 0 dX9_sheetOf_5 rfl rfl ?_
    refine fg9_48 (r := 26) C oX_0 rfl dX9_sheetOf_6 ?_
    refine V_alenR C oX_26.1 oX_26.2.1 (w := 4) rfl dX9_sheetOf_9 ?_
    by_cases c2 : 4 ≤ l1
    · rw [if_pos c2] at h
      refine V_icmp_geT C 22 dX9_sheetOf_10 (by decide) c2 ?_
      refine V_null C dX9_sheetOf_22 ?_
      obtain rfl := Option.some.inj h
      exact V_aret C rfl (by first | exact Or.inl ⟨_, rfl⟩ | exact Or.inr ⟨_, rfl⟩) (Or.inl rfl) dX9_sheetOf_23
    · rw [if_neg c2] at h
      refine V_icmp_geF C 22 dX9_sheetOf_10 (by decide) c2 ?_
      refine V_aload_n C 0 dX9_sheetOf_13 rfl rfl ?_
      refine fg9_48 (r := 26) C oX_0 rfl dX9_sheetOf_14 ?_
      refine V_iload_n C 1 dX9_sheetOf_17 rfl rfl ?_
      have g3 : ¬ (ob l1 4) := fun g9 => by rw [if_pos g9] at h; cases h
      rw [if_neg g3] at h
      refine V_aald3O C oX_26 g3 dX9_sheetOf_18 ?_
      refine V_goto C 23 dX9_sheetOf_19 (by decide) ?_
      obtain rfl := Option.some.inj h
      exact V_aret C rfl (by first | exact Or.inl ⟨_, rfl⟩ | exact Or.inr ⟨_, rfl⟩) (Or.inr ⟨_, rfl⟩) dX9_sheetOf_23
def X9_evening (l1 : Int32) (l2 : Int32) (σ : St) : Option (Int32 × St) := (X9_sheetOf l1 σ).bind (fun x2 => Option.elim x2 (some ((-1000), σ)) (fun t2 => if isO shX t2 6 3 then ((X6_isMissing t2 σ).bind (fun x11 => if x11 = 0 then ((X1_comeBy t2 σ).bind (fun x22 => if x22.1 = 0 then (some ((-1000), x22.2)) else (if l2 = 0 then ((X1_warmthNow x22.2).bind (fun x64 => some (x64, x22.2))) else (if l2 = 1 then ((X1_firstBoil x22.2).bind (fun x72 => some (x72, x22.2))) else (if l2 = 2 then ((X1_screamsSoFar x22.2).bind (fun x80 => some (x80, x22.2))) else (if l2 < 10 then (some ((-1000), x22.2)) else (if (x22.2.1 t2 2) ≤ (l2 - 10) then (some ((-1000), x22.2)) else ((X1_warmthBehind (l2 - 10) x22.2).bind (fun x109 => some (x109, x22.2)))))))))) else (some ((-1000), σ)))) else none))
set_option maxRecDepth 100000 in
set_option maxHeartbeats 4000000 in
theorem X9_evening_ok {l1 : Int32} {l2 : Int32} {σ : St} {x : (Int32 × St)} (h : X9_evening l1 l2 σ = some x) : Ct shX (6) yX9_evening cX9_evening 4 (some FieldType.int) (fun G => [.ref (G.2.1 0), .int l1, .int l2]) σ (fun G => some (.int x.1)) x.2 := by
  refine Ct.of mw_X9_evening.1 (by decide +kernel) (fun G => Nat.le_of_ble_eq_true rfl) (fun G p l e d s m args below meth c A hd C => ?_)
  refine (?_ : Vw shX G p l e d s m args below meth c 4 A σ 0 [(0, .ref (G.2.1 0)), (1, .int l1), (2, .int l2)] [] (some (.int x.1)) x.2)
  unfold X9_evening at h
  refine V_aload_n C 0 dX9_evening_0 rfl rfl ?_
  refine V_iload_n C 1 dX9_evening_1 rfl rfl ?_
  obtain ⟨x2, h2, h⟩ := Option.bind_eq_some_iff.mp h
  rcases x2 with _ | t2
  · dsimp only [Option.elim] at h
    refine V_callVn (As := [.int l1]) C (X9_sheetOf_ok h2) mw_X9_sheetOf.1 mw_X9_sheetOf.2.1 mw_X9_sheetOf.2.2 q9_141 oX_0.1 oX_0.2.1 (by decide) rfl rfl (by omega) rfl rfl rfl (Nat.le_of_ble_eq_true rfl) dX9_evening_2 ?_
    refine V_astore_nN C (lv' := [(3, .null), (0, .ref (G.2.1 0)), (1, .int l1), (2, .int l2)]) dX9_evening_5 rfl (by decide) rfl ?_
    refine V_aload_nN C 0 dX9_evening_6 rfl rfl ?_
    refine V_ifnullT C 28 dX9_evening_7 (by decide) ?_
    refine V_sipush C (w := (-1000)) dX9_evening_28 (by decide) ?_
    obtain rfl := Option.some.inj h
    exact V_iret C rfl rfl dX9_evening_31
  · dsimp only [Option.elim] at h
    refine V_callVr (As := [.int l1]) C (X9_sheetOf_ok h2) mw_X9_sheetOf.1 mw_X9_sheetOf.2.1 mw_X9_sheetOf.2.2 q9_141 oX_0.1 oX_0.2.1 (by decide) rfl rfl (by omega) rfl rfl rfl (Nat.le_of_ble_eq_true rfl) dX9_evening_2 ?_
    refine V_astore_n C (lv' := [(3, .ref (G.2.1 t2)), (0, .ref (G.2.1 0)), (1, .int l1), (2, .int l2)]) dX9_evening_5 rfl (by decide) rfl ?_
    refine V_aload_n C 0 dX9_evening_6 rfl rfl ?_
    refine V_ifnullF C dX9_evening_7 ?_
    refine V_aload_n C 0 dX9_evening_10 rfl rfl ?_
    have g1 : isO shX t2 6 3 := Decidable.byContradiction (fun g9 => by rw [if_neg g9] at h; cases h)
    rw [if_pos g1] at h
    obtain ⟨x11, h11, h⟩ := Option.bind_eq_some_iff.mp h
    refine V_callVi (As := []) C (X6_isMissing_ok h11) mw_X6_isMissing.1 mw_X6_isMissing.2.1 mw_X6_isMissing.2.2 q9_145 g1.1 g1.2.1 (by decide) rfl rfl (by omega) rfl rfl rfl (Nat.le_of_ble_eq_true rfl) dX9_evening_11 ?_
    by_cases c2 : x11 = 0
    · rw [if_pos c2] at h
      refine V_if_neF C 28 dX9_evening_14 (by decide) c2 ?_
      refine V_aload_n C 1 dX9_evening_17 rfl rfl ?_
      refine fg9_57 (r := 27) C oX_0 rfl dX9_evening_18 ?_
      refine V_aload_n C 0 dX9_evening_21 rfl rfl ?_
      obtain ⟨x22, h22, h⟩ := Option.bind_eq_some_iff.mp h
      refine V_callVi (As := [.ref (G.2.1 t2)]) C (X1_comeBy_ok h22) mw_X1_comeBy.1 mw_X1_comeBy.2.1 mw_X1_comeBy.2.2 q9_148 oX_27.1 oX_27.2.1 (by decide) rfl rfl (by omega) rfl rfl rfl (Nat.le_of_ble_eq_true rfl) dX9_evening_22 ?_
      by_cases c3 : x22.1 = 0
      · rw [if_pos c3] at h
        refine V_if_neF C 32 dX9_evening_25 (by decide) c3 ?_
        refine V_sipush C (w := (-1000)) dX9_evening_28 (by decide) ?_
        obtain rfl := Option.some.inj h
        exact V_iret C rfl rfl dX9_evening_31
      · rw [if_neg c3] at h
        refine V_if_neT C 32 dX9_evening_25 (by decide) c3 ?_
        refine V_iload_n C 3 dX9_evening_32 rfl rfl ?_
        by_cases c4 : l2 = 0
        · rw [if_pos c4] at h
          refine V_tableIn (off := 27) C 60 dX9_evening_33 (by rw [c4]; decide) (by decide) ?_
          refine V_aload_n C 1 dX9_evening_60 rfl rfl ?_
          refine fg9_57 (r := 27) C oX_0 rfl dX9_evening_61 ?_
          obtain ⟨x64, h64, h⟩ := Option.bind_eq_some_iff.mp h
          refine V_callVi (As := []) C (X1_warmthNow_ok h64) mw_X1_warmthNow.1 mw_X1_warmthNow.2.1 mw_X1_warmthNow.2.2 q9_152 oX_27.1 oX_27.2.1 (by decide) rfl rfl (by omega) rfl rfl rfl (Nat.le_of_ble_eq_true rfl) dX9_evening_64 ?_
          obtain rfl := Option.some.inj h
          exact V_iret C rfl rfl dX9_evening_67
        · rw [if_neg c4] at h
          by_cases c5 : l2 = 1
          · rw [if_pos c5] at h
            refine V_tableIn (off := 35) C 68 dX9_evening_33 (by rw [c5]; decide) (by decide) ?_
            refine V_aload_n C 1 dX9_evening_68 rfl rfl ?_
            refine fg9_57 (r := 27) C oX_0 rfl dX9_evening_69 ?_
            obtain ⟨x72, h72, h⟩ := Option.bind_eq_some_iff.mp h
            refine V_callVi (As := []) C (X1_firstBoil_ok h72) mw_X1_firstBoil.1 mw_X1_firstBoil.2.1 mw_X1_firstBoil.2.2 q9_155 oX_27.1 oX_27.2.1 (by decide) rfl rfl (by omega) rfl rfl rfl (Nat.le_of_ble_eq_true rfl) dX9_evening_72 ?_
            obtain rfl := Option.some.inj h
            exact V_iret C rfl rfl dX9_evening_75
          · rw [if_neg c5] at h
            by_cases c6 : l2 = 2
            · rw [if_pos c6] at h
              refine V_tableIn (off := 43) C 76 dX9_evening_33 (by rw [c6]; decide) (by decide) ?_
              refine V_aload_n C 1 dX9_evening_76 rfl rfl ?_
              refine fg9_57 (r := 27) C oX_0 rfl dX9_evening_77 ?_
              obtain ⟨x80, h80, h⟩ := Option.bind_eq_some_iff.mp h
              refine V_callVi (As := []) C (X1_screamsSoFar_ok h80) mw_X1_screamsSoFar.1 mw_X1_screamsSoFar.2.1 mw_X1_screamsSoFar.2.2 q9_158 oX_27.1 oX_27.2.1 (by decide) rfl rfl (by omega) rfl rfl rfl (Nat.le_of_ble_eq_true rfl) dX9_evening_80 ?_
              obtain rfl := Option.some.inj h
              exact V_iret C rfl rfl dX9_evening_83
            · rw [if_neg c6] at h
              have nc4 := ti_ne c4 (show (0 : Int32).toInt = 0 by decide)
              have nc5 := ti_ne c5 (show (1 : Int32).toInt = 1 by decide)
              have nc6 := ti_ne c6 (show (2 : Int32).toInt = 2 by decide)
              refine V_tableOut C 84 dX9_evening_33 (by omega) (by decide) ?_
              refine V_iload_n C 3 dX9_evening_84 rfl rfl ?_
              refine V_bipush C (w := 10) dX9_evening_85 (by decide) ?_
              by_cases c7 : l2 < 10
              · rw [if_pos c7] at h
                refine V_icmp_ltT C 115 dX9_evening_87 (by decide) c7 ?_
                refine V_sipush C (w := (-1000)) dX9_evening_115 (by decide) ?_
                obtain rfl := Option.some.inj h
                exact V_iret C rfl rfl dX9_evening_118
              · rw [if_neg c7] at h
                refine V_icmp_ltF C 115 dX9_evening_87 (by decide) c7 ?_
                refine V_iload_n C 3 dX9_evening_90 rfl rfl ?_
                refine V_bipush C (w := 10) dX9_evening_91 (by decide) ?_
                refine V_isub C dX9_evening_93 ?_
                refine V_aload_n C 0 dX9_evening_94 rfl rfl ?_
                refine fg9_161 C g1 dX9_evening_95 ?_
                by_cases c8 : (x22.2.1 t2 2) ≤ (l2 - 10)
                · rw [if_pos c8] at h
                  refine V_icmp_geT C 115 dX9_evening_98 (by decide) c8 ?_
                  refine V_sipush C (w := (-1000)) dX9_evening_115 (by decide) ?_
                  obtain rfl := Option.some.inj h
                  exact V_iret C rfl rfl dX9_evening_118
                · rw [if_neg c8] at h
                  refine V_icmp_geF C 115 dX9_evening_98 (by decide) c8 ?_
                  refine V_aload_n C 1 dX9_evening_101 rfl rfl ?_
                  refine fg9_57 (r := 27) C oX_0 rfl dX9_evening_102 ?_
                  refine V_iload_n C 3 dX9_evening_105 rfl rfl ?_
                  refine V_bipush C (w := 10) dX9_evening_106 (by decide) ?_
                  refine V_isub C dX9_evening_108 ?_
                  obtain ⟨x109, h109, h⟩ := Option.bind_eq_some_iff.mp h
                  refine V_callVi (As := [.int (l2 - 10)]) C (X1_warmthBehind_ok h109) mw_X1_warmthBehind.1 mw_X1_warmthBehind.2.1 mw_X1_warmthBehind.2.2 q9_164 oX_27.1 oX_27.2.1 (by decide) rfl rfl (by omega) rfl rfl rfl (Nat.le_of_ble_eq_true rfl) dX9_evening_109 ?_
                  refine V_goto C 118 dX9_evening_112 (by decide) ?_
                  obtain rfl := Option.some.inj h
                  exact V_iret C rfl rfl dX9_evening_118
    · rw [if_neg c2] at h
      refine V_if_neT C 28 dX9_evening_14 (by decide) c2 ?_
      refine V_sipush C (w := (-1000)) dX9_evening_28 (by decide) ?_
      obtain rfl := Option.some.inj h
      exact V_iret C rfl rfl dX9_evening_31
def X9_hold (l1 : Int32) (σ : St) : Option (Int32 × St) := (X9_sheetOf l1 σ).bind (fun x2 => Option.elim x2 (some ((-2), σ)) (fun t2 => if isO shX t2 6 3 then ((X6_isMissing t2 σ).bind (fun x14 => if x14 = 0 then ((X1_comeBy t2 σ).bind (fun x28 => if x28.1 = 0 then (some ((-2), x28.2)) else (if (x28.2.1 1 2) < (stv 1 2) then ((X1_warmthNow x28.2).bind (fun x63 => (X1_screamsSoFar (up x28.2 1 0 x63)).bind (fun x81 => (X1_screamsSoFar (up (up (up x28.2 1 0 x63) 1 3 (((up x28.2 1 0 x63).1 1 3) + x81)) 1 2 (((up (up x28.2 1 0 x63) 1 3 (((up x28.2 1 0 x63).1 1 3) + x81)).1 1 2) + 1))).bind (fun x105 => some (x105, (up (up (up x28.2 1 0 x63) 1 3 (((up x28.2 1 0 x63).1 1 3) + x81)) 1 2 (((up (up x28.2 1 0 x63) 1 3 (((up x28.2 1 0 x63).1 1 3) + x81)).1 1 2) + 1))))))) else (some ((-3), x28.2))))) else (some ((-11), σ)))) else none))
set_option maxRecDepth 100000 in
set_option maxHeartbeats 4000000 in
theorem X9_hold_ok {l1 : Int32} {σ : St} {x : (Int32 × St)} (h : X9_hold l1 σ = some x) : Ct shX (6) yX9_hold cX9_hold 3 (some FieldType.int) (fun G => [.ref (G.2.1 0), .int l1]) σ (fun G => some (.int x.1)) x.2 := by
  refine Ct.of mw_X9_hold.1 (by decide +kernel) (fun G => Nat.le_of_ble_eq_true rfl) (fun G p l e d s m args below meth c A hd C => ?_)
  refine (?_ : Vw shX G p l e d s m args below meth c 3 A σ 0 [(0, .ref (G.2.1 0)), (1, .int l1)] [] (some (.int x.1)) x.2)
  unfold X9_hold at h
  refine V_aload_n C 0 dX9_hold_0 rfl rfl ?_
  refine V_iload_n C 1 dX9_hold_1 rfl rfl ?_
  obtain ⟨x2, h2, h⟩ := Option.bind_eq_some_iff.mp h
  rcases x2 with _ | t2
  · dsimp only [Option.elim] at h
    refine V_callVn (As := [.int l1]) C (X9_sheetOf_ok h2) mw_X9_sheetOf.1 mw_X9_sheetOf.2.1 mw_X9_sheetOf.2.2 q9_141 oX_0.1 oX_0.2.1 (by decide) rfl rfl (by omega) rfl rfl rfl (Nat.le_of_ble_eq_true rfl) dX9_hold_2 ?_
    refine V_astore_nN C (lv' := [(2, .null), (0, .ref (G.2.1 0)), (1, .int l1)]) dX9_hold_5 rfl (by decide) rfl ?_
    refine V_aload_nN C 0 dX9_hold_6 rfl rfl ?_
    refine V_ifnonnullF C dX9_hold_7 ?_
    refine V_bipush C (w := (-2)) dX9_hold_10 (by decide) ?_
    obtain rfl := Option.some.inj h
    exact V_iret C rfl rfl dX9_hold_12
  · dsimp only [Option.elim] at h
    refine V_callVr (As := [.int l1]) C (X9_sheetOf_ok h2) mw_X9_sheetOf.1 mw_X9_sheetOf.2.1 mw_X9_sheetOf.2.2 q9_141 oX_0.1 oX_0.2.1 (by decide) rfl rfl (by omega) rfl rfl rfl (Nat.le_of_ble_eq_true rfl) dX9_hold_2 ?_
    refine V_astore_n C (lv' := [(2, .ref (G.2.1 t2)), (0, .ref (G.2.1 0)), (1, .int l1)]) dX9_hold_5 rfl (by decide) rfl ?_
    refine V_aload_n C 0 dX9_hold_6 rfl rfl ?_
    refine V_ifnonnullT C 13 dX9_hold_7 (by decide) ?_
    refine V_aload_n C 0 dX9_hold_13 rfl rfl ?_
    have g1 : isO shX t2 6 3 := Decidable.byContradiction (fun g9 => by rw [if_neg g9] at h; cases h)
    rw [if_pos g1] at h
    obtain ⟨x14, h14, h⟩ := Option.bind_eq_some_iff.mp h
    refine V_callVi (As := []) C (X6_isMissing_ok h14) mw_X6_isMissing.1 mw_X6_isMissing.2.1 mw_X6_isMissing.2.2 q9_145 g1.1 g1.2.1 (by decide) rfl rfl (by omega) rfl rfl rfl (Nat.le_of_ble_eq_true rfl) dX9_hold_14 ?_
    by_cases c2 : x14 = 0
    · rw [if_pos c2] at h
      refine V_if_eqT C 23 dX9_hold_17 (by decide) c2 ?_
      refine V_aload_n C 1 dX9_hold_23 rfl rfl ?_
      refine fg9_57 (r := 27) C oX_0 rfl dX9_hold_24 ?_
      refine V_aload_n C 0 dX9_hold_27 rfl rfl ?_
      obtain ⟨x28, h28, h⟩ := Option.bind_eq_some_iff.mp h
      refine V_callVi (As := [.ref (G.2.1 t2)]) C (X1_comeBy_ok h28) mw_X1_comeBy.1 mw_X1_comeBy.2.1 mw_X1_comeBy.2.2 q9_148 oX_27.1 oX_27.2.1 (by decide) rfl rfl (by omega) rfl rfl rfl (Nat.le_of_ble_eq_true rfl) dX9_hold_28 ?_
      by_cases c3 : x28.1 = 0
      · rw [if_pos c3] at h
        refine V_if_neF C 37 dX9_hold_31 (by decide) c3 ?_
        refine V_bipush C (w := (-2)) dX9_hold_34 (by decide) ?_
        obtain rfl := Option.some.inj h
        exact V_iret C rfl rfl dX9_hold_36
      · rw [if_neg c3] at h
        refine V_if_neT C 37 dX9_hold_31 (by decide) c3 ?_
        refine V_aload_n C 1 dX9_hold_37 rfl rfl ?_
        refine fg9_10 (r := 1) C oX_0 rfl dX9_hold_38 ?_
        refine fg9_167 C oX_1 dX9_hold_41 ?_
        refine V_gets (i := 1) C (by decide) qf9_170 dX9_hold_44 ?_
        refine V_iconst C (w := 2) dX9_hold_47 (by decide) ?_
        refine V_sldO (i := 1) C (by decide) rfl (by decide) dX9_hold_48 ?_
        by_cases c4 : (x28.2.1 1 2) < (stv 1 2)
        · rw [if_pos c4] at h
          refine V_icmp_ltT C 55 dX9_hold_49 (by decide) c4 ?_
          refine V_aload_n C 1 dX9_hold_55 rfl rfl ?_
          refine fg9_10 (r := 1) C oX_0 rfl dX9_hold_56 ?_
          refine V_aload_n C 1 dX9_hold_59 rfl rfl ?_
          refine fg9_57 (r := 27) C oX_0 rfl dX9_hold_60 ?_
          obtain ⟨x63, h63, h⟩ := Option.bind_eq_some_iff.mp h
          refine V_callVi (As := []) C (X1_warmthNow_ok h63) mw_X1_warmthNow.1 mw_X1_warmthNow.2.1 mw_X1_warmthNow.2.2 q9_152 oX_27.1 oX_27.2.1 (by decide) rfl rfl (by omega) rfl rfl rfl (Nat.le_of_ble_eq_true rfl) dX9_hold_63 ?_
          refine fp9_174 C oX_1 dX9_hold_66 ?_
          refine V_aload_n C 1 dX9_hold_69 rfl rfl ?_
          refine fg9_10 (r := 1) C oX_0 rfl dX9_hold_70 ?_
          refine V_dup C dX9_hold_73 rfl ?_
          refine fg9_177 C oX_1 dX9_hold_74 ?_
          refine V_aload_n C 1 dX9_hold_77 rfl rfl ?_
          refine fg9_57 (r := 27) C oX_0 rfl dX9_hold_78 ?_
          obtain ⟨x81, h81, h⟩ := Option.bind_eq_some_iff.mp h
          refine V_callVi (As := []) C (X1_screamsSoFar_ok h81) mw_X1_screamsSoFar.1 mw_X1_screamsSoFar.2.1 mw_X1_screamsSoFar.2.2 q9_158 oX_27.1 oX_27.2.1 (by decide) rfl rfl (by omega) rfl rfl rfl (Nat.le_of_ble_eq_true rfl) dX9_hold_81 ?_
          refine V_iadd C dX9_hold_84 ?_
          refine fp9_177 C oX_1 dX9_hold_85 ?_
          refine V_aload_n C 1 dX9_hold_88 rfl rfl ?_
          refine fg9_10 (r := 1) C oX_0 rfl dX9_hold_89 ?_
          refine V_dup C dX9_hold_92 rfl ?_
          refine fg9_167 C oX_1 dX9_hold_93 ?_
          refine V_iconst C (w := 1) dX9_hold_96 (by decide) ?_
          refine V_iadd C dX9_hold_97 ?_
          refine fp9_167 C oX_1 dX9_hold_98 ?_
          refine V_aload_n C 1 dX9_hold_101 rfl rfl ?_
          refine fg9_57 (r := 27) C oX_0 rfl dX9_hold_102 ?_
          obtain ⟨x105, h105, h⟩ := Option.bind_eq_some_iff.mp h
          refine V_callVi (As := []) C (X1_screamsSoFar_ok h105) mw_X1_screamsSoFar.1 mw_X1_screamsSoFar.2.1 mw_X1_screamsSoFar.2.2 q9_158 oX_27.1 oX_27.2.1 (by decide) rfl rfl (by omega) rfl rfl rfl (Nat.le_of_ble_eq_true rfl) dX9_hold_105 ?_
          obtain rfl := Option.some.inj h
          exact V_iret C rfl rfl dX9_hold_108
        · rw [if_neg c4] at h
          refine V_icmp_ltF C 55 dX9_hold_49 (by decide) c4 ?_
          refine V_bipush C (w := (-3)) dX9_hold_52 (by decide) ?_
          obtain rfl := Option.some.inj h
          exact V_iret C rfl rfl dX9_hold_54
    · rw [if_neg c2] at h
      refine V_if_eqF C 23 dX9_hold_17 (by decide) c2 ?_
      refine V_bipush C (w := (-11)) dX9_hold_20 (by decide) ?_
      obtain rfl := Option.some.inj h
      exact V_iret C rfl rfl dX9_hold_22
def X9_warmest (l1 : Int32) (σ : St) : Option (Int32 × St) := if l1 < 0 then (some ((-2), σ)) else (if l1 ≤ 1 then ((X0_seekWarmest (-1) σ).bind (fun x17 => if l1 = 0 then (some ((x17.1 34 3), x17)) else (some ((x17.1 34 2), x17)))) else (some ((-2), σ)))
set_option maxRecDepth 100000 in
set_option maxHeartbeats 4000000 in
theorem X9_warmest_ok {l1 : Int32} {σ : St} {x : (Int32 × St)} (h : X9_warmest l1 σ = some x) : Ct shX (16) yX9_warmest cX9_warmest 2 (some FieldType.int) (fun G => [.ref (G.2.1 0), .int l1]) σ (fun G => some (.int x.1)) x.2 := by
  refine Ct.of mw_X9_warmest.1 (by decide +kernel) (fun G => Nat.le_of_ble_eq_true rfl) (fun G p l e d s m args below meth c A hd C => ?_)
  refine (?_ : Vw shX G p l e d s m args below meth c 2 A σ 0 [(0, .ref (G.2.1 0)), (1, .int l1)] [] (some (.int x.1)) x.2)
  unfold X9_warmest at h
  refine V_iload_n C 1 dX9_warmest_0 rfl rfl ?_
  by_cases c1 : l1 < 0
  · rw [if_pos c1] at h
    refine V_if_ltT C 9 dX9_warmest_1 (by decide) c1 ?_
    refine V_bipush C (w := (-2)) dX9_warmest_9 (by decide) ?_
    obtain rfl := Option.some.inj h
    exact V_iret C rfl rfl dX9_warmest_11
  · rw [if_neg c1] at h
    refine V_if_ltF C 9 dX9_warmest_1 (by decide) c1 ?_
    refine V_iload_n C 1 dX9_warmest_4 rfl rfl ?_
    refine V_iconst C (w := 1) dX9_warmest_5 (by decide) ?_
    by_cases c2 : l1 ≤ 1
    · rw [if_pos c2] at h
      refine V_icmp_leT C 12 dX9_warmest_6 (by decide) c2 ?_
      refine V_aload_n C 0 dX9_warmest_12 rfl rfl ?_
      refine fg9_66 (r := 34) C oX_0 rfl dX9_warmest_13 ?_
      refine V_iconst C (w := (-1)) dX9_warmest_16 (by decide) ?_
      obtain ⟨x17, h17, h⟩ := Option.bind_eq_some_iff.mp h
      refine V_callVv (As := [.int (-1)]) C (X0_seekWarmest_ok h17) mw_X0_seekWarmest.1 mw_X0_seekWarmest.2.1 mw_X0_seekWarmest.2.2 q9_180 oX_34.1 oX_34.2.1 (by decide) rfl rfl (by omega) rfl rfl rfl (Nat.le_of_ble_eq_true rfl) dX9_warmest_17 ?_
      refine V_iload_n C 1 dX9_warmest_20 rfl rfl ?_
      by_cases c3 : l1 = 0
      · rw [if_pos c3] at h
        refine V_if_neF C 34 dX9_warmest_21 (by decide) c3 ?_
        refine V_aload_n C 0 dX9_warmest_24 rfl rfl ?_
        refine fg9_66 (r := 34) C oX_0 rfl dX9_warmest_25 ?_
        refine fg9_183 C oX_34 dX9_warmest_28 ?_
        refine V_goto C 41 dX9_warmest_31 (by decide) ?_
        obtain rfl := Option.some.inj h
        exact V_iret C rfl rfl dX9_warmest_41
      · rw [if_neg c3] at h
        refine V_if_neT C 34 dX9_warmest_21 (by decide) c3 ?_
        refine V_aload_n C 0 dX9_warmest_34 rfl rfl ?_
        refine fg9_66 (r := 34) C oX_0 rfl dX9_warmest_35 ?_
        refine fg9_186 C oX_34 dX9_warmest_38 ?_
        obtain rfl := Option.some.inj h
        exact V_iret C rfl rfl dX9_warmest_41
    · rw [if_neg c2] at h
      refine V_icmp_leF C 12 dX9_warmest_6 (by decide) c2 ?_
      refine V_bipush C (w := (-2)) dX9_warmest_9 (by decide) ?_
      obtain rfl := Option.some.inj h
      exact V_iret C rfl rfl dX9_warmest_11
def X9_soonest (l1 : Int32) (σ : St) : Option (Int32 × St) := if l1 < 0 then (some ((-2), σ)) else (if l1 ≤ 3 then ((X0_seekSoonest σ).bind (fun x16 => if l1 = 0 then (some ((x16.1 34 3), x16)) else (if l1 = 1 then (some ((x16.1 34 4), x16)) else (if l1 = 2 then (some ((x16.1 34 5), x16)) else (if (x16.1 34 4) = (-1) then (some ((-1), x16)) else (some (((x16.1 34 4) + 1), x16))))))) else (some ((-2), σ)))
set_option maxRecDepth 100000 in
set_option maxHeartbeats 4000000 in
theorem X9_soonest_ok {l1 : Int32} {σ : St} {x : (Int32 × St)} (h : X9_soonest l1 σ = some x) : Ct shX (16) yX9_soonest cX9_soonest 2 (some FieldType.int) (fun G => [.ref (G.2.1 0), .int l1]) σ (fun G => some (.int x.1)) x.2 := by
  refine Ct.of mw_X9_soonest.1 (by decide +kernel) (fun G => Nat.le_of_ble_eq_true rfl) (fun G p l e d s m args below meth c A hd C => ?_)
  refine (?_ : Vw shX G p l e d s m args below meth c 2 A σ 0 [(0, .ref (G.2.1 0)), (1, .int l1)] [] (some (.int x.1)) x.2)
  unfold X9_soonest at h
  refine V_iload_n C 1 dX9_soonest_0 rfl rfl ?_
  by_cases c1 : l1 < 0
  · rw [if_pos c1] at h
    refine V_if_ltT C 9 dX9_soonest_1 (by decide) c1 ?_
    refine V_bipush C (w := (-2)) dX9_soonest_9 (by decide) ?_
    obtain rfl := Option.some.inj h
    exact V_iret C rfl rfl dX9_soonest_11
  · rw [if_neg c1] at h
    refine V_if_ltF C 9 dX9_soonest_1 (by decide) c1 ?_
    refine V_iload_n C 1 dX9_soonest_4 rfl rfl ?_
    refine V_iconst C (w := 3) dX9_soonest_5 (by decide) ?_
    by_cases c2 : l1 ≤ 3
    · rw [if_pos c2] at h
      refine V_icmp_leT C 12 dX9_soonest_6 (by decide) c2 ?_
      refine V_aload_n C 0 dX9_soonest_12 rfl rfl ?_
      refine fg9_66 (r := 34) C oX_0 rfl dX9_soonest_13 ?_
      obtain ⟨x16, h16, h⟩ := Option.bind_eq_some_iff.mp h
      refine V_callVv (As := []) C (X0_seekSoonest_ok h16) mw_X0_seekSoonest.1 mw_X0_seekSoonest.2.1 mw_X0_seekSoonest.2.2 q9_187 oX_34.1 oX_34.2.1 (by decide) rfl rfl (by omega) rfl rfl rfl (Nat.le_of_ble_eq_true rfl) dX9_soonest_16 ?_
      refine V_iload_n C 1 dX9_soonest_19 rfl rfl ?_
      by_cases c3 : l1 = 0
      · rw [if_pos c3] at h
        refine V_tableIn (off := 28) C 48 dX9_soonest_20 (by rw [c3]; decide) (by decide) ?_
        refine V_aload_n C 0 dX9_soonest_48 rfl rfl ?_
        refine fg9_66 (r := 34) C oX_0 rfl dX9_soonest_49 ?_
        refine fg9_183 C oX_34 dX9_soonest_52 ?_
        obtain rfl := Option.some.inj h
        exact V_iret C rfl rfl dX9_soonest_55
      · rw [if_neg c3] at h
        by_cases c4 : l1 = 1
        · rw [if_pos c4] at h
          refine V_tableIn (off := 36) C 56 dX9_soonest_20 (by rw [c4]; decide) (by decide) ?_
          refine V_aload_n C 0 dX9_soonest_56 rfl rfl ?_
          refine fg9_66 (r := 34) C oX_0 rfl dX9_soonest_57 ?_
          refine fg9_190 C oX_34 dX9_soonest_60 ?_
          obtain rfl := Option.some.inj h
          exact V_iret C rfl rfl dX9_soonest_63
        · rw [if_neg c4] at h
          by_cases c5 : l1 = 2
          · rw [if_pos c5] at h
            refine V_tableIn (off := 44) C 64 dX9_soonest_20 (by rw [c5]; decide) (by decide) ?_
            refine V_aload_n C 0 dX9_soonest_64 rfl rfl ?_
            refine fg9_66 (r := 34) C oX_0 rfl dX9_soonest_65 ?_
            refine fg9_193 C oX_34 dX9_soonest_68 ?_
            obtain rfl := Option.some.inj h
            exact V_iret C rfl rfl dX9_soonest_71
          · rw [if_neg c5] at h
            have nc3 := ti_ne c3 (show (0 : Int32).toInt = 0 by decide)
            have nc4 := ti_ne c4 (show (1 : Int32).toInt = 1 by decide)
            have nc5 := ti_ne c5 (show (2 : Int32).toInt = 2 by decide)
            refine V_tableOut C 72 dX9_soonest_20 (by omega) (by decide) ?_
            refine V_aload_n C 0 dX9_soonest_72 rfl rfl ?_
            refine fg9_66 (r := 34) C oX_0 rfl dX9_soonest_73 ?_
            refine fg9_190 C oX_34 dX9_soonest_76 ?_
            refine V_iconst C (w := (-1)) dX9_soonest_79 (by decide) ?_
            by_cases c6 : (x16.1 34 4) = (-1)
            · rw [if_pos c6] at h
              refine V_icmp_neF C 87 dX9_soonest_80 (by decide) c6 ?_
              refine V_iconst C (w := (-1)) dX9_soonest_83 (by decide) ?_
              refine V_goto C 96 dX9_soonest_84 (by decide) ?_
              obtain rfl := Option.some.inj h
              exact V_iret C rfl rfl dX9_soonest_96
            · rw [if_neg c6] at h
              refine V_icmp_neT C 87 dX9_soonest_80 (by decide) c6 ?_
              refine V_aload_n C 0 dX9_soonest_87 rfl rfl ?_
              refine fg9_66 (r := 34) C oX_0 rfl dX9_soonest_88 ?_
              refine fg9_190 C oX_34 dX9_soonest_91 ?_
              refine V_iconst C (w := 1) dX9_soonest_94 (by decide) ?_
              refine V_iadd C dX9_soonest_95 ?_
              obtain rfl := Option.some.inj h
              exact V_iret C rfl rfl dX9_soonest_96
    · rw [if_neg c2] at h
      refine V_icmp_leF C 12 dX9_soonest_6 (by decide) c2 ?_
      refine V_bipush C (w := (-2)) dX9_soonest_9 (by decide) ?_
      obtain rfl := Option.some.inj h
      exact V_iret C rfl rfl dX9_soonest_11
def X9_ratherNot_b33 : Nat → Int32 → Int32 → Int32 → Int32 → St → Option (Int32 × St)
  | 0, _, _, _, _, _ => none
  | F + 1, l1, l2, l3, l4, σ => if (σ.1 1 5) ≤ l4 then (if l1 = 0 then (some (l3, σ)) else (some (l2, σ))) else ((X0_seekWarmest l4 σ).bind (fun x51 => if (x51.1 34 2) ≤ l2 then (X9_ratherNot_b33 F l1 l2 l3 (l4 + 1) x51) else (X9_ratherNot_b33 F l1 (x51.1 34 2) l4 (l4 + 1) x51)))
set_option maxRecDepth 100000 in
set_option maxHeartbeats 4000000 in
theorem X9_ratherNot_b33_ok {G : Gx} {p : Program} {l : Launch} {e : Env} {d : Nat} {s : State} {m : MethodId} {args : Array Value} {below : List Frame} {meth : Method} {c : Code} {A : Nat → Prop} (C : OK shX G p s m args meth c RX9 cX9_ratherNot 5 (some FieldType.int) A) (hd : 16 ≤ d) : ∀ (F : Nat) {l1 : Int32} {l2 : Int32} {l3 : Int32} {l4 : Int32} {σ : St} {x : (Int32 × St)} (h : X9_ratherNot_b33 F l1 l2 l3 l4 σ = some x), Vw shX G p l e d s m args below meth c 5 A σ 33 [(0, .ref (G.2.1 0)), (1, .int l1), (2, .int l2), (3, .int l3), (4, .int l4)] [] (some (.int x.1)) x.2 := by
  intro F
  induction F with
  | zero =>
    intro l1 l2 l3 l4 σ x h
    rw [X9_ratherNot_b33] at h
    cases h
  | succ F ih =>
    intro l1 l2 l3 l4 σ x h
    rw [X9_ratherNot_b33] at h
    refine V_iload C 4 dX9_ratherNot_33 rfl ?_
    refine V_aload_n C 0 dX9_ratherNot_35 rfl rfl ?_
    refine fg9_10 (r := 1) C oX_0 rfl dX9_ratherNot_36 ?_
    refine fg9_196 C oX_1 dX9_ratherNot_39 ?_
    by_cases c1 : (σ.1 1 5) ≤ l4
    · rw [if_pos c1] at h
      refine V_icmp_geT C 82 dX9_ratherNot_42 (by decide) c1 ?_
      refine V_iload_n C 1 dX9_ratherNot_82 rfl rfl ?_
      by_cases c2 : l1 = 0
      · rw [if_pos c2] at h
        refine V_if_neF C 90 dX9_ratherNot_83 (by decide) c2 ?_
        refine V_iload_n C 3 dX9_ratherNot_86 rfl rfl ?_
        refine V_goto C 91 dX9_ratherNot_87 (by decide) ?_
        obtain rfl := Option.some.inj h
        exact V_iret C rfl rfl dX9_ratherNot_91
      · rw [if_neg c2] at h
        refine V_if_neT C 90 dX9_ratherNot_83 (by decide) c2 ?_
        refine V_iload_n C 2 dX9_ratherNot_90 rfl rfl ?_
        obtain rfl := Option.some.inj h
        exact V_iret C rfl rfl dX9_ratherNot_91
    · rw [if_neg c1] at h
      refine V_icmp_geF C 82 dX9_ratherNot_42 (by decide) c1 ?_
      refine V_aload_n C 0 dX9_ratherNot_45 rfl rfl ?_
      refine fg9_66 (r := 34) C oX_0 rfl dX9_ratherNot_46 ?_
      refine V_iload C 4 dX9_ratherNot_49 rfl ?_
      obtain ⟨x51, h51, h⟩ := Option.bind_eq_some_iff.mp h
      refine V_callVv (As := [.int l4]) C (X0_seekWarmest_ok h51) mw_X0_seekWarmest.1 mw_X0_seekWarmest.2.1 mw_X0_seekWarmest.2.2 q9_180 oX_34.1 oX_34.2.1 (by decide) rfl rfl (by omega) rfl rfl rfl (Nat.le_of_ble_eq_true rfl) dX9_ratherNot_51 ?_
      refine V_aload_n C 0 dX9_ratherNot_54 rfl rfl ?_
      refine fg9_66 (r := 34) C oX_0 rfl dX9_ratherNot_55 ?_
      refine fg9_186 C oX_34 dX9_ratherNot_58 ?_
      refine V_iload_n C 2 dX9_ratherNot_61 rfl rfl ?_
      by_cases c3 : (x51.1 34 2) ≤ l2
      · rw [if_pos c3] at h
        refine V_icmp_leT C 76 dX9_ratherNot_62 (by decide) c3 ?_
        refine V_iinc C (w := (l4 + 1)) (lv' := [(4, .int (l4 + 1)), (0, .ref (G.2.1 0)), (1, .int l1), (2, .int l2), (3, .int l3)]) 4 dX9_ratherNot_76 rfl (congrArg (l4 + ·) (show Int32.ofInt 1 = 1 by decide)) (by decide) rfl ?_
        refine V_goto C 33 dX9_ratherNot_79 (by decide) ?_
        refine V_sub (lv' := [(0, .ref (G.2.1 0)), (1, .int l1), (2, .int l2), (3, .int l3), (4, .int (l4 + 1))]) [1, 2, 3, 4, 0] rfl ?_
        exact ih h
      · rw [if_neg c3] at h
        refine V_icmp_leF C 76 dX9_ratherNot_62 (by decide) c3 ?_
        refine V_aload_n C 0 dX9_ratherNot_65 rfl rfl ?_
        refine fg9_66 (r := 34) C oX_0 rfl dX9_ratherNot_66 ?_
        refine fg9_186 C oX_34 dX9_ratherNot_69 ?_
        refine V_istore_n C (lv' := [(2, .int (x51.1 34 2)), (0, .ref (G.2.1 0)), (1, .int l1), (3, .int l3), (4, .int l4)]) dX9_ratherNot_72 rfl (by decide) rfl ?_
        refine V_iload C 4 dX9_ratherNot_73 rfl ?_
        refine V_istore_n C (lv' := [(3, .int l4), (2, .int (x51.1 34 2)), (0, .ref (G.2.1 0)), (1, .int l1), (4, .int l4)]) dX9_ratherNot_75 rfl (by decide) rfl ?_
        refine V_iinc C (w := (l4 + 1)) (lv' := [(4, .int (l4 + 1)), (3, .int l4), (2, .int (x51.1 34 2)), (0, .ref (G.2.1 0)), (1, .int l1)]) 4 dX9_ratherNot_76 rfl (congrArg (l4 + ·) (show Int32.ofInt 1 = 1 by decide)) (by decide) rfl ?_
        refine V_goto C 33 dX9_ratherNot_79 (by decide) ?_
        refine V_sub (lv' := [(0, .ref (G.2.1 0)), (1, .int l1), (2, .int (x51.1 34 2)), (3, .int l4), (4, .int (l4 + 1))]) [3, 4, 2, 1, 0] rfl ?_
        exact ih h
def X9_ratherNot (l1 : Int32) (σ : St) : Option (Int32 × St) := if l1 < 0 then (some ((-2), σ)) else (if l1 ≤ 1 then ((X0_seekWarmest (-1) σ).bind (fun x17 => X9_ratherNot_b33 FU l1 (x17.1 34 2) (-1) 0 x17)) else (some ((-2), σ)))
set_option maxRecDepth 100000 in
set_option maxHeartbeats 4000000 in
theorem X9_ratherNot_ok {l1 : Int32} {σ : St} {x : (Int32 × St)} (h : X9_ratherNot l1 σ = some x) : Ct shX (16) yX9_ratherNot cX9_ratherNot 5 (some FieldType.int) (fun G => [.ref (G.2.1 0), .int l1]) σ (fun G => some (.int x.1)) x.2 := by
  refine Ct.of mw_X9_ratherNot.1 (by decide +kernel) (fun G => Nat.le_of_ble_eq_true rfl) (fun G p l e d s m args below meth c A hd C => ?_)
  refine (?_ : Vw shX G p l e d s m args below meth c 5 A σ 0 [(0, .ref (G.2.1 0)), (1, .int l1)] [] (some (.int x.1)) x.2)
  unfold X9_ratherNot at h
  refine V_iload_n C 1 dX9_ratherNot_0 rfl rfl ?_
  by_cases c4 : l1 < 0
  · rw [if_pos c4] at h
    refine V_if_ltT C 9 dX9_ratherNot_1 (by decide) c4 ?_
    refine V_bipush C (w := (-2)) dX9_ratherNot_9 (by decide) ?_
    obtain rfl := Option.some.inj h
    exact V_iret C rfl rfl dX9_ratherNot_11
  · rw [if_neg c4] at h
    refine V_if_ltF C 9 dX9_ratherNot_1 (by decide) c4 ?_
    refine V_iload_n C 1 dX9_ratherNot_4 rfl rfl ?_
    refine V_iconst C (w := 1) dX9_ratherNot_5 (by decide) ?_
    by_cases c5 : l1 ≤ 1
    · rw [if_pos c5] at h
      refine V_icmp_leT C 12 dX9_ratherNot_6 (by decide) c5 ?_
      refine V_aload_n C 0 dX9_ratherNot_12 rfl rfl ?_
      refine fg9_66 (r := 34) C oX_0 rfl dX9_ratherNot_13 ?_
      refine V_iconst C (w := (-1)) dX9_ratherNot_16 (by decide) ?_
      obtain ⟨x17, h17, h⟩ := Option.bind_eq_some_iff.mp h
      refine V_callVv (As := [.int (-1)]) C (X0_seekWarmest_ok h17) mw_X0_seekWarmest.1 mw_X0_seekWarmest.2.1 mw_X0_seekWarmest.2.2 q9_180 oX_34.1 oX_34.2.1 (by decide) rfl rfl (by omega) rfl rfl rfl (Nat.le_of_ble_eq_true rfl) dX9_ratherNot_17 ?_
      refine V_aload_n C 0 dX9_ratherNot_20 rfl rfl ?_
      refine fg9_66 (r := 34) C oX_0 rfl dX9_ratherNot_21 ?_
      refine fg9_186 C oX_34 dX9_ratherNot_24 ?_
      refine V_istore_n C (lv' := [(2, .int (x17.1 34 2)), (0, .ref (G.2.1 0)), (1, .int l1)]) dX9_ratherNot_27 rfl (by decide) rfl ?_
      refine V_iconst C (w := (-1)) dX9_ratherNot_28 (by decide) ?_
      refine V_istore_n C (lv' := [(3, .int (-1)), (2, .int (x17.1 34 2)), (0, .ref (G.2.1 0)), (1, .int l1)]) dX9_ratherNot_29 rfl (by decide) rfl ?_
      refine V_iconst C (w := 0) dX9_ratherNot_30 (by decide) ?_
      refine V_istore C (lv' := [(4, .int 0), (3, .int (-1)), (2, .int (x17.1 34 2)), (0, .ref (G.2.1 0)), (1, .int l1)]) dX9_ratherNot_31 (by decide) rfl ?_
      refine V_sub (lv' := [(0, .ref (G.2.1 0)), (1, .int l1), (2, .int (x17.1 34 2)), (3, .int (-1)), (4, .int 0)]) [3, 4, 2, 1, 0] rfl ?_
      exact X9_ratherNot_b33_ok C hd FU h
    · rw [if_neg c5] at h
      refine V_icmp_leF C 12 dX9_ratherNot_6 (by decide) c5 ?_
      refine V_bipush C (w := (-2)) dX9_ratherNot_9 (by decide) ?_
      obtain rfl := Option.some.inj h
      exact V_iret C rfl rfl dX9_ratherNot_11
def X9_topic_b42 : Nat → Int32 → Int32 → Int32 → Int32 → Int32 → Int32 → St → Option (Int32 × St)
  | 0, _, _, _, _, _, _, _ => none
  | F + 1, l1, l2, l3, l4, l5, l6, σ => if (stv 1 4) < l6 then ((X5_change 1 4 l1 l3 σ).bind (fun x109 => if l2 = 0 then (some (l5, x109)) else (some (l4, x109)))) else ((X5_change 1 4 l1 l6 σ).bind (fun x60 => (X0_seekWarmest (-1) x60).bind (fun x68 => if (x68.1 34 2) ≤ l4 then (X9_topic_b42 F l1 l2 l3 l4 l5 (l6 + 1) x68) else (X9_topic_b42 F l1 l2 l3 (x68.1 34 2) l6 (l6 + 1) x68))))
set_option maxRecDepth 100000 in
set_option maxHeartbeats 4000000 in
theorem X9_topic_b42_ok {G : Gx} {p : Program} {l : Launch} {e : Env} {d : Nat} {s : State} {m : MethodId} {args : Array Value} {below : List Frame} {meth : Method} {c : Code} {A : Nat → Prop} (C : OK shX G p s m args meth c RX9 cX9_topic 7 (some FieldType.int) A) (hd : 16 ≤ d) : ∀ (F : Nat) {l1 : Int32} {l2 : Int32} {l3 : Int32} {l4 : Int32} {l5 : Int32} {l6 : Int32} {σ : St} {x : (Int32 × St)} (h : X9_topic_b42 F l1 l2 l3 l4 l5 l6 σ = some x), Vw shX G p l e d s m args below meth c 7 A σ 42 [(0, .ref (G.2.1 0)), (1, .int l1), (2, .int l2), (3, .int l3), (4, .int l4), (5, .int l5), (6, .int l6)] [] (some (.int x.1)) x.2 := by
  intro F
  induction F with
  | zero =>
    intro l1 l2 l3 l4 l5 l6 σ x h
    rw [X9_topic_b42] at h
    cases h
  | succ F ih =>
    intro l1 l2 l3 l4 l5 l6 σ x h
    rw [X9_topic_b42] at h
    refine V_iload C 6 dX9_topic_42 rfl ?_
    refine V_gets (i := 1) C (by decide) qf9_170 dX9_topic_44 ?_
    refine V_iconst C (w := 4) dX9_topic_47 (by decide) ?_
    refine V_sldO (i := 1) C (by decide) rfl (by decide) dX9_topic_48 ?_
    by_cases c1 : (stv 1 4) < l6
    · rw [if_pos c1] at h
      refine V_icmp_gtT C 102 dX9_topic_49 (by decide) c1 ?_
      refine V_aload_n C 0 dX9_topic_102 rfl rfl ?_
      refine fg9_10 (r := 1) C oX_0 rfl dX9_topic_103 ?_
      refine V_iconst C (w := 4) dX9_topic_106 (by decide) ?_
      refine V_iload_n C 1 dX9_topic_107 rfl rfl ?_
      refine V_iload_n C 3 dX9_topic_108 rfl rfl ?_
      obtain ⟨x109, h109, h⟩ := Option.bind_eq_some_iff.mp h
      refine V_callVv (As := [.int 4, .int l1, .int l3]) C (X5_change_ok h109) mw_X5_change.1 mw_X5_change.2.1 mw_X5_change.2.2 q9_109 oX_1.1 oX_1.2.1 (by decide) rfl rfl (by omega) rfl rfl rfl (Nat.le_of_ble_eq_true rfl) dX9_topic_109 ?_
      refine V_iload_n C 2 dX9_topic_112 rfl rfl ?_
      by_cases c2 : l2 = 0
      · rw [if_pos c2] at h
        refine V_if_neF C 121 dX9_topic_113 (by decide) c2 ?_
        refine V_iload C 5 dX9_topic_116 rfl ?_
        refine V_goto C 123 dX9_topic_118 (by decide) ?_
        obtain rfl := Option.some.inj h
        exact V_iret C rfl rfl dX9_topic_123
      · rw [if_neg c2] at h
        refine V_if_neT C 121 dX9_topic_113 (by decide) c2 ?_
        refine V_iload C 4 dX9_topic_121 rfl ?_
        obtain rfl := Option.some.inj h
        exact V_iret C rfl rfl dX9_topic_123
    · rw [if_neg c1] at h
      refine V_icmp_gtF C 102 dX9_topic_49 (by decide) c1 ?_
      refine V_aload_n C 0 dX9_topic_52 rfl rfl ?_
      refine fg9_10 (r := 1) C oX_0 rfl dX9_topic_53 ?_
      refine V_iconst C (w := 4) dX9_topic_56 (by decide) ?_
      refine V_iload_n C 1 dX9_topic_57 rfl rfl ?_
      refine V_iload C 6 dX9_topic_58 rfl ?_
      obtain ⟨x60, h60, h⟩ := Option.bind_eq_some_iff.mp h
      refine V_callVv (As := [.int 4, .int l1, .int l6]) C (X5_change_ok h60) mw_X5_change.1 mw_X5_change.2.1 mw_X5_change.2.2 q9_109 oX_1.1 oX_1.2.1 (by decide) rfl rfl (by omega) rfl rfl rfl (Nat.le_of_ble_eq_true rfl) dX9_topic_60 ?_
      refine V_aload_n C 0 dX9_topic_63 rfl rfl ?_
      refine fg9_66 (r := 34) C oX_0 rfl dX9_topic_64 ?_
      refine V_iconst C (w := (-1)) dX9_topic_67 (by decide) ?_
      obtain ⟨x68, h68, h⟩ := Option.bind_eq_some_iff.mp h
      refine V_callVv (As := [.int (-1)]) C (X0_seekWarmest_ok h68) mw_X0_seekWarmest.1 mw_X0_seekWarmest.2.1 mw_X0_seekWarmest.2.2 q9_180 oX_34.1 oX_34.2.1 (by decide) rfl rfl (by omega) rfl rfl rfl (Nat.le_of_ble_eq_true rfl) dX9_topic_68 ?_
      refine V_aload_n C 0 dX9_topic_71 rfl rfl ?_
      refine fg9_66 (r := 34) C oX_0 rfl dX9_topic_72 ?_
      refine fg9_186 C oX_34 dX9_topic_75 ?_
      refine V_iload C 4 dX9_topic_78 rfl ?_
      by_cases c3 : (x68.1 34 2) ≤ l4
      · rw [if_pos c3] at h
        refine V_icmp_leT C 96 dX9_topic_80 (by decide) c3 ?_
        refine V_iinc C (w := (l6 + 1)) (lv' := [(6, .int (l6 + 1)), (0, .ref (G.2.1 0)), (1, .int l1), (2, .int l2), (3, .int l3), (4, .int l4), (5, .int l5)]) 6 dX9_topic_96 rfl (congrArg (l6 + ·) (show Int32.ofInt 1 = 1 by decide)) (by decide) rfl ?_
        refine V_goto C 42 dX9_topic_99 (by decide) ?_
        refine V_sub (lv' := [(0, .ref (G.2.1 0)), (1, .int l1), (2, .int l2), (3, .int l3), (4, .int l4), (5, .int l5), (6, .int (l6 + 1))]) [1, 2, 3, 4, 5, 6, 0] rfl ?_
        exact ih h
      · rw [if_neg c3] at h
        refine V_icmp_leF C 96 dX9_topic_80 (by decide) c3 ?_
        refine V_aload_n C 0 dX9_topic_83 rfl rfl ?_
        refine fg9_66 (r := 34) C oX_0 rfl dX9_topic_84 ?_
        refine fg9_186 C oX_34 dX9_topic_87 ?_
        refine V_istore C (lv' := [(4, .int (x68.1 34 2)), (0, .ref (G.2.1 0)), (1, .int l1), (2, .int l2), (3, .int l3), (5, .int l5), (6, .int l6)]) dX9_topic_90 (by decide) rfl ?_
        refine V_iload C 6 dX9_topic_92 rfl ?_
        refine V_istore C (lv' := [(5, .int l6), (4, .int (x68.1 34 2)), (0, .ref (G.2.1 0)), (1, .int l1), (2, .int l2), (3, .int l3), (6, .int l6)]) dX9_topic_94 (by decide) rfl ?_
        refine V_iinc C (w := (l6 + 1)) (lv' := [(6, .int (l6 + 1)), (5, .int l6), (4, .int (x68.1 34 2)), (0, .ref (G.2.1 0)), (1, .int l1), (2, .int l2), (3, .int l3)]) 6 dX9_topic_96 rfl (congrArg (l6 + ·) (show Int32.ofInt 1 = 1 by decide)) (by decide) rfl ?_
        refine V_goto C 42 dX9_topic_99 (by decide) ?_
        refine V_sub (lv' := [(0, .ref (G.2.1 0)), (1, .int l1), (2, .int l2), (3, .int l3), (4, .int (x68.1 34 2)), (5, .int l6), (6, .int (l6 + 1))]) [3, 4, 5, 6, 2, 1, 0] rfl ?_
        exact ih h
def X9_topic (l1 : Int32) (l2 : Int32) (σ : St) : Option (Int32 × St) := (X5_has 1 l1 σ).bind (fun x5 => if x5 = 0 then (some ((-2), σ)) else (if l2 < 0 then (some ((-2), σ)) else (if l2 ≤ 1 then ((X5_value 1 4 l1 σ).bind (fun x29 => X9_topic_b42 FU l1 l2 x29 (-1) (-1) 0 σ)) else (some ((-2), σ)))))
set_option maxRecDepth 100000 in
set_option maxHeartbeats 4000000 in
theorem X9_topic_ok {l1 : Int32} {l2 : Int32} {σ : St} {x : (Int32 × St)} (h : X9_topic l1 l2 σ = some x) : Ct shX (16) yX9_topic cX9_topic 7 (some FieldType.int) (fun G => [.ref (G.2.1 0), .int l1, .int l2]) σ (fun G => some (.int x.1)) x.2 := by
  refine Ct.of mw_X9_topic.1 (by decide +kernel) (fun G => Nat.le_of_ble_eq_true rfl) (fun G p l e d s m args below meth c A hd C => ?_)
  refine (?_ : Vw shX G p l e d s m args below meth c 7 A σ 0 [(0, .ref (G.2.1 0)), (1, .int l1), (2, .int l2)] [] (some (.int x.1)) x.2)
  unfold X9_topic at h
  refine V_aload_n C 0 dX9_topic_0 rfl rfl ?_
  refine fg9_10 (r := 1) C oX_0 rfl dX9_topic_1 ?_
  refine V_iload_n C 1 dX9_topic_4 rfl rfl ?_
  obtain ⟨x5, h5, h⟩ := Option.bind_eq_some_iff.mp h
  refine V_callVi (As := [.int l1]) C (X5_has_ok h5) mw_X5_has.1 mw_X5_has.2.1 mw_X5_has.2.2 q9_101 oX_1.1 oX_1.2.1 (by decide) rfl rfl (by omega) rfl rfl rfl (Nat.le_of_ble_eq_true rfl) dX9_topic_5 ?_
  by_cases c4 : x5 = 0
  · rw [if_pos c4] at h
    refine V_if_eqT C 20 dX9_topic_8 (by decide) c4 ?_
    refine V_bipush C (w := (-2)) dX9_topic_20 (by decide) ?_
    obtain rfl := Option.some.inj h
    exact V_iret C rfl rfl dX9_topic_22
  · rw [if_neg c4] at h
    refine V_if_eqF C 20 dX9_topic_8 (by decide) c4 ?_
    refine V_iload_n C 2 dX9_topic_11 rfl rfl ?_
    by_cases c5 : l2 < 0
    · rw [if_pos c5] at h
      refine V_if_ltT C 20 dX9_topic_12 (by decide) c5 ?_
      refine V_bipush C (w := (-2)) dX9_topic_20 (by decide) ?_
      obtain rfl := Option.some.inj h
      exact V_iret C rfl rfl dX9_topic_22
    · rw [if_neg c5] at h
      refine V_if_ltF C 20 dX9_topic_12 (by decide) c5 ?_
      refine V_iload_n C 2 dX9_topic_15 rfl rfl ?_
      refine V_iconst C (w := 1) dX9_topic_16 (by decide) ?_
      by_cases c6 : l2 ≤ 1
      · rw [if_pos c6] at h
        refine V_icmp_leT C 23 dX9_topic_17 (by decide) c6 ?_
        refine V_aload_n C 0 dX9_topic_23 rfl rfl ?_
        refine fg9_10 (r := 1) C oX_0 rfl dX9_topic_24 ?_
        refine V_iconst C (w := 4) dX9_topic_27 (by decide) ?_
        refine V_iload_n C 1 dX9_topic_28 rfl rfl ?_
        obtain ⟨x29, h29, h⟩ := Option.bind_eq_some_iff.mp h
        refine V_callVi (As := [.int 4, .int l1]) C (X5_value_ok h29) mw_X5_value.1 mw_X5_value.2.1 mw_X5_value.2.2 q9_105 oX_1.1 oX_1.2.1 (by decide) rfl rfl (by omega) rfl rfl rfl (Nat.le_of_ble_eq_true rfl) dX9_topic_29 ?_
        refine V_istore_n C (lv' := [(3, .int x29), (0, .ref (G.2.1 0)), (1, .int l1), (2, .int l2)]) dX9_topic_32 rfl (by decide) rfl ?_
        refine V_iconst C (w := (-1)) dX9_topic_33 (by decide) ?_
        refine V_istore C (lv' := [(4, .int (-1)), (3, .int x29), (0, .ref (G.2.1 0)), (1, .int l1), (2, .int l2)]) dX9_topic_34 (by decide) rfl ?_
        refine V_iconst C (w := (-1)) dX9_topic_36 (by decide) ?_
        refine V_istore C (lv' := [(5, .int (-1)), (4, .int (-1)), (3, .int x29), (0, .ref (G.2.1 0)), (1, .int l1), (2, .int l2)]) dX9_topic_37 (by decide) rfl ?_
        refine V_iconst C (w := 0) dX9_topic_39 (by decide) ?_
        refine V_istore C (lv' := [(6, .int 0), (5, .int (-1)), (4, .int (-1)), (3, .int x29), (0, .ref (G.2.1 0)), (1, .int l1), (2, .int l2)]) dX9_topic_40 (by decide) rfl ?_
        refine V_sub (lv' := [(0, .ref (G.2.1 0)), (1, .int l1), (2, .int l2), (3, .int x29), (4, .int (-1)), (5, .int (-1)), (6, .int 0)]) [4, 5, 6, 3, 2, 1, 0] rfl ?_
        exact X9_topic_b42_ok C hd FU h
      · rw [if_neg c6] at h
        refine V_icmp_leF C 23 dX9_topic_17 (by decide) c6 ?_
        refine V_bipush C (w := (-2)) dX9_topic_20 (by decide) ?_
        obtain rfl := Option.some.inj h
        exact V_iret C rfl rfl dX9_topic_22
def X9_turns (l1 : Int32) (σ : St) : Option (Int32 × St) := if l1 < 0 then (some ((-2), σ)) else (if l1 ≤ 1 then ((X0_seekByTurns σ).bind (fun x16 => if l1 = 0 then (some ((x16.1 34 2), x16)) else (some ((x16.1 34 6), x16)))) else (some ((-2), σ)))
set_option maxRecDepth 100000 in
set_option maxHeartbeats 4000000 in
theorem X9_turns_ok {l1 : Int32} {σ : St} {x : (Int32 × St)} (h : X9_turns l1 σ = some x) : Ct shX (16) yX9_turns cX9_turns 2 (some FieldType.int) (fun G => [.ref (G.2.1 0), .int l1]) σ (fun G => some (.int x.1)) x.2 := by
  refine Ct.of mw_X9_turns.1 (by decide +kernel) (fun G => Nat.le_of_ble_eq_true rfl) (fun G p l e d s m args below meth c A hd C => ?_)
  refine (?_ : Vw shX G p l e d s m args below meth c 2 A σ 0 [(0, .ref (G.2.1 0)), (1, .int l1)] [] (some (.int x.1)) x.2)
  unfold X9_turns at h
  refine V_iload_n C 1 dX9_turns_0 rfl rfl ?_
  by_cases c1 : l1 < 0
  · rw [if_pos c1] at h
    refine V_if_ltT C 9 dX9_turns_1 (by decide) c1 ?_
    refine V_bipush C (w := (-2)) dX9_turns_9 (by decide) ?_
    obtain rfl := Option.some.inj h
    exact V_iret C rfl rfl dX9_turns_11
  · rw [if_neg c1] at h
    refine V_if_ltF C 9 dX9_turns_1 (by decide) c1 ?_
    refine V_iload_n C 1 dX9_turns_4 rfl rfl ?_
    refine V_iconst C (w := 1) dX9_turns_5 (by decide) ?_
    by_cases c2 : l1 ≤ 1
    · rw [if_pos c2] at h
      refine V_icmp_leT C 12 dX9_turns_6 (by decide) c2 ?_
      refine V_aload_n C 0 dX9_turns_12 rfl rfl ?_
      refine fg9_66 (r := 34) C oX_0 rfl dX9_turns_13 ?_
      obtain ⟨x16, h16, h⟩ := Option.bind_eq_some_iff.mp h
      refine V_callVv (As := []) C (X0_seekByTurns_ok h16) mw_X0_seekByTurns.1 mw_X0_seekByTurns.2.1 mw_X0_seekByTurns.2.2 q9_199 oX_34.1 oX_34.2.1 (by decide) rfl rfl (by omega) rfl rfl rfl (Nat.le_of_ble_eq_true rfl) dX9_turns_16 ?_
      refine V_iload_n C 1 dX9_turns_19 rfl rfl ?_
      by_cases c3 : l1 = 0
      · rw [if_pos c3] at h
        refine V_if_neF C 33 dX9_turns_20 (by decide) c3 ?_
        refine V_aload_n C 0 dX9_turns_23 rfl rfl ?_
        refine fg9_66 (r := 34) C oX_0 rfl dX9_turns_24 ?_
        refine fg9_186 C oX_34 dX9_turns_27 ?_
        refine V_goto C 40 dX9_turns_30 (by decide) ?_
        obtain rfl := Option.some.inj h
        exact V_iret C rfl rfl dX9_turns_40
      · rw [if_neg c3] at h
        refine V_if_neT C 33 dX9_turns_20 (by decide) c3 ?_
        refine V_aload_n C 0 dX9_turns_33 rfl rfl ?_
        refine fg9_66 (r := 34) C oX_0 rfl dX9_turns_34 ?_
        refine fg9_202 C oX_34 dX9_turns_37 ?_
        obtain rfl := Option.some.inj h
        exact V_iret C rfl rfl dX9_turns_40
    · rw [if_neg c2] at h
      refine V_icmp_leF C 12 dX9_turns_6 (by decide) c2 ?_
      refine V_bipush C (w := (-2)) dX9_turns_9 (by decide) ?_
      obtain rfl := Option.some.inj h
      exact V_iret C rfl rfl dX9_turns_11
