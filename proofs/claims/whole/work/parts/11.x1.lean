def X1_goBack (σ : St) : Option St := if (σ.1 27 8) ≤ 0 then (some σ) else (if 5 < (σ.1 27 8) then (some σ) else (if ob ((up σ 27 8 ((σ.1 27 8) - 1)).1 27 8) 5 then none else (some (up (up σ 27 8 ((σ.1 27 8) - 1)) 27 9 (((up σ 27 8 ((σ.1 27 8) - 1)).1 27 9) &&& ((1 <<< (((up σ 27 8 ((σ.1 27 8) - 1)).1 29 (((up σ 27 8 ((σ.1 27 8) - 1)).1 27 8)).toNatClampNeg) &&& 31)) ^^^ (-1)))))))
set_option maxRecDepth 100000 in
set_option maxHeartbeats 4000000 in
theorem X1_goBack_ok {σ : St} {x : St} (h : X1_goBack σ = some x) : Ct shX (1) yX1_goBack cX1_goBack 1 none (fun G => [.ref (G.2.1 27)]) σ (fun G => none) x := by
  refine Ct.of mw_X1_goBack.1 (by decide +kernel) (fun G => Nat.le_of_ble_eq_true rfl) (fun G p l e d s m args below meth c A hd C => ?_)
  refine (?_ : Vw shX G p l e d s m args below meth c 1 A σ 0 [(0, .ref (G.2.1 27))] [] (none) x)
  unfold X1_goBack at h
  refine V_aload_n C 0 dX1_goBack_0 rfl rfl ?_
  refine fg1_35 C oX_27 dX1_goBack_1 ?_
  by_cases c1 : (σ.1 27 8) ≤ 0
  · rw [if_pos c1] at h
    refine V_if_leT C 47 dX1_goBack_4 (by decide) c1 ?_
    obtain rfl := Option.some.inj h
    exact V_vret C rfl dX1_goBack_47
  · rw [if_neg c1] at h
    refine V_if_leF C 47 dX1_goBack_4 (by decide) c1 ?_
    refine V_aload_n C 0 dX1_goBack_7 rfl rfl ?_
    refine fg1_35 C oX_27 dX1_goBack_8 ?_
    refine V_iconst C (w := 5) dX1_goBack_11 (by decide) ?_
    by_cases c2 : 5 < (σ.1 27 8)
    · rw [if_pos c2] at h
      refine V_icmp_gtT C 47 dX1_goBack_12 (by decide) c2 ?_
      obtain rfl := Option.some.inj h
      exact V_vret C rfl dX1_goBack_47
    · rw [if_neg c2] at h
      refine V_icmp_gtF C 47 dX1_goBack_12 (by decide) c2 ?_
      refine V_aload_n C 0 dX1_goBack_15 rfl rfl ?_
      refine V_dup C dX1_goBack_16 rfl ?_
      refine fg1_35 C oX_27 dX1_goBack_17 ?_
      refine V_iconst C (w := 1) dX1_goBack_20 (by decide) ?_
      refine V_isub C dX1_goBack_21 ?_
      refine fp1_35 C oX_27 dX1_goBack_22 ?_
      refine V_aload_n C 0 dX1_goBack_25 rfl rfl ?_
      refine V_dup C dX1_goBack_26 rfl ?_
      refine fg1_39 C oX_27 dX1_goBack_27 ?_
      refine V_iconst C (w := 1) dX1_goBack_30 (by decide) ?_
      refine V_aload_n C 0 dX1_goBack_31 rfl rfl ?_
      refine fg1_18 (r := 29) C oX_27 rfl dX1_goBack_32 ?_
      refine V_aload_n C 0 dX1_goBack_35 rfl rfl ?_
      refine fg1_35 C oX_27 dX1_goBack_36 ?_
      have g3 : ¬ (ob ((up σ 27 8 ((σ.1 27 8) - 1)).1 27 8) 5) := fun g9 => by rw [if_pos g9] at h; cases h
      rw [if_neg g3] at h
      refine V_ialdO C oX_29 g3 dX1_goBack_39 ?_
      refine V_ishl C dX1_goBack_40 ?_
      refine V_iconst C (w := (-1)) dX1_goBack_41 (by decide) ?_
      refine V_ixor C dX1_goBack_42 ?_
      refine V_iand C dX1_goBack_43 ?_
      refine fp1_39 C oX_27 dX1_goBack_44 ?_
      obtain rfl := Option.some.inj h
      exact V_vret C rfl dX1_goBack_47
def X0_seekWarmestBehind_b45 (rec : Int32 → Int32 → Int32 → St → Option St) : Nat → Int32 → Int32 → Int32 → Int32 → St → Option St
  | 0, _, _, _, _, _ => none
  | F + 1, l1, l2, l3, l4, σ => if (σ.1 1 5) ≤ l4 then (some σ) else (if l4 = l3 then (X0_seekWarmestBehind_b45 rec F l1 l2 l3 (l4 + 1) σ) else ((X1_comeUp l4 σ).bind (fun x69 => if x69.1 = 0 then (X0_seekWarmestBehind_b45 rec F l1 l2 l3 (l4 + 1) x69.2) else ((rec (l1 + 1) l2 l3 x69.2).bind (fun x81 => (X1_goBack x81).bind (fun x88 => X0_seekWarmestBehind_b45 rec F l1 l2 l3 (l4 + 1) x88))))))
set_option maxRecDepth 100000 in
set_option maxHeartbeats 4000000 in
theorem X0_seekWarmestBehind_b45_ok {G : Gx} {p : Program} {l : Launch} {e : Env} {d : Nat} {s : State} {m : MethodId} {args : Array Value} {below : List Frame} {meth : Method} {c : Code} {A : Nat → Prop} {hr : Nat} {rec : Int32 → Int32 → Int32 → St → Option St} (C : OK shX G p s m args meth c RX0 cX0_seekWarmestBehind 5 none A) (hd : hr + 1 ≤ d) (hH : 5 ≤ hr) (hrec0 : ∀  {l1 : Int32} {l2 : Int32} {l3 : Int32} {σ : St} {x : St}, rec l1 l2 l3 σ = some x → Ct shX hr yX0_seekWarmestBehind cX0_seekWarmestBehind 5 none (fun G => [.ref (G.2.1 34), .int l1, .int l2, .int l3]) σ (fun G => none) x) : ∀ (F : Nat) {l1 : Int32} {l2 : Int32} {l3 : Int32} {l4 : Int32} {σ : St} {x : St} (h : X0_seekWarmestBehind_b45 rec F l1 l2 l3 l4 σ = some x), Vw shX G p l e d s m args below meth c 5 A σ 45 [(0, .ref (G.2.1 34)), (1, .int l1), (2, .int l2), (3, .int l3), (4, .int l4)] [] (none) x := by
  intro F
  induction F with
  | zero =>
    intro l1 l2 l3 l4 σ x h
    rw [X0_seekWarmestBehind_b45] at h
    cases h
  | succ F ih =>
    intro l1 l2 l3 l4 σ x h
    rw [X0_seekWarmestBehind_b45] at h
    refine V_iload C 4 dX0_seekWarmestBehind_45 rfl ?_
    refine V_aload_n C 0 dX0_seekWarmestBehind_47 rfl rfl ?_
    refine fg0_27 (r := 1) C oX_34 rfl dX0_seekWarmestBehind_48 ?_
    refine fg0_46 C oX_1 dX0_seekWarmestBehind_51 ?_
    by_cases c1 : (σ.1 1 5) ≤ l4
    · rw [if_pos c1] at h
      refine V_icmp_geT C 97 dX0_seekWarmestBehind_54 (by decide) c1 ?_
      obtain rfl := Option.some.inj h
      exact V_vret C rfl dX0_seekWarmestBehind_97
    · rw [if_neg c1] at h
      refine V_icmp_geF C 97 dX0_seekWarmestBehind_54 (by decide) c1 ?_
      refine V_iload C 4 dX0_seekWarmestBehind_57 rfl ?_
      refine V_iload_n C 3 dX0_seekWarmestBehind_59 rfl rfl ?_
      by_cases c2 : l4 = l3
      · rw [if_pos c2] at h
        refine V_icmp_eqT C 91 dX0_seekWarmestBehind_60 (by decide) c2 ?_
        refine V_iinc C (w := (l4 + 1)) (lv' := [(4, .int (l4 + 1)), (0, .ref (G.2.1 34)), (1, .int l1), (2, .int l2), (3, .int l3)]) 4 dX0_seekWarmestBehind_91 rfl (congrArg (l4 + ·) (show Int32.ofInt 1 = 1 by decide)) (by decide) rfl ?_
        refine V_goto C 45 dX0_seekWarmestBehind_94 (by decide) ?_
        refine V_sub (lv' := [(0, .ref (G.2.1 34)), (1, .int l1), (2, .int l2), (3, .int l3), (4, .int (l4 + 1))]) [1, 2, 3, 4, 0] rfl ?_
        exact ih h
      · rw [if_neg c2] at h
        refine V_icmp_eqF C 91 dX0_seekWarmestBehind_60 (by decide) c2 ?_
        refine V_aload_n C 0 dX0_seekWarmestBehind_63 rfl rfl ?_
        refine fg0_31 (r := 27) C oX_34 rfl dX0_seekWarmestBehind_64 ?_
        refine V_iload C 4 dX0_seekWarmestBehind_67 rfl ?_
        obtain ⟨x69, h69, h⟩ := Option.bind_eq_some_iff.mp h
        refine V_callVi (As := [.int l4]) C (X1_comeUp_ok h69) mw_X1_comeUp.1 mw_X1_comeUp.2.1 mw_X1_comeUp.2.2 q0_60 oX_27.1 oX_27.2.1 (by decide) rfl rfl (by omega) rfl rfl rfl (Nat.le_of_ble_eq_true rfl) dX0_seekWarmestBehind_69 ?_
        by_cases c3 : x69.1 = 0
        · rw [if_pos c3] at h
          refine V_if_eqT C 91 dX0_seekWarmestBehind_72 (by decide) c3 ?_
          refine V_iinc C (w := (l4 + 1)) (lv' := [(4, .int (l4 + 1)), (0, .ref (G.2.1 34)), (1, .int l1), (2, .int l2), (3, .int l3)]) 4 dX0_seekWarmestBehind_91 rfl (congrArg (l4 + ·) (show Int32.ofInt 1 = 1 by decide)) (by decide) rfl ?_
          refine V_goto C 45 dX0_seekWarmestBehind_94 (by decide) ?_
          refine V_sub (lv' := [(0, .ref (G.2.1 34)), (1, .int l1), (2, .int l2), (3, .int l3), (4, .int (l4 + 1))]) [1, 2, 3, 4, 0] rfl ?_
          exact ih h
        · rw [if_neg c3] at h
          refine V_if_eqF C 91 dX0_seekWarmestBehind_72 (by decide) c3 ?_
          refine V_aload_n C 0 dX0_seekWarmestBehind_75 rfl rfl ?_
          refine V_iload_n C 1 dX0_seekWarmestBehind_76 rfl rfl ?_
          refine V_iconst C (w := 1) dX0_seekWarmestBehind_77 (by decide) ?_
          refine V_iadd C dX0_seekWarmestBehind_78 ?_
          refine V_iload_n C 2 dX0_seekWarmestBehind_79 rfl rfl ?_
          refine V_iload_n C 3 dX0_seekWarmestBehind_80 rfl rfl ?_
          obtain ⟨x81, h81, h⟩ := Option.bind_eq_some_iff.mp h
          refine V_callVv (As := [.int (l1 + 1), .int l2, .int l3]) C (hrec0 h81) mw_X0_seekWarmestBehind.1 mw_X0_seekWarmestBehind.2.1 mw_X0_seekWarmestBehind.2.2 q0_49 oX_34.1 oX_34.2.1 (by decide) rfl rfl (by omega) rfl rfl rfl (Nat.le_of_ble_eq_true rfl) dX0_seekWarmestBehind_81 ?_
          refine V_aload_n C 0 dX0_seekWarmestBehind_84 rfl rfl ?_
          refine fg0_31 (r := 27) C oX_34 rfl dX0_seekWarmestBehind_85 ?_
          obtain ⟨x88, h88, h⟩ := Option.bind_eq_some_iff.mp h
          refine V_callVv (As := []) C (X1_goBack_ok h88) mw_X1_goBack.1 mw_X1_goBack.2.1 mw_X1_goBack.2.2 q0_63 oX_27.1 oX_27.2.1 (by decide) rfl rfl (by omega) rfl rfl rfl (Nat.le_of_ble_eq_true rfl) dX0_seekWarmestBehind_88 ?_
          refine V_iinc C (w := (l4 + 1)) (lv' := [(4, .int (l4 + 1)), (0, .ref (G.2.1 34)), (1, .int l1), (2, .int l2), (3, .int l3)]) 4 dX0_seekWarmestBehind_91 rfl (congrArg (l4 + ·) (show Int32.ofInt 1 = 1 by decide)) (by decide) rfl ?_
          refine V_goto C 45 dX0_seekWarmestBehind_94 (by decide) ?_
          refine V_sub (lv' := [(0, .ref (G.2.1 34)), (1, .int l1), (2, .int l2), (3, .int l3), (4, .int (l4 + 1))]) [1, 2, 3, 4, 0] rfl ?_
          exact ih h
def X0_seekWarmestBehind (rec : Int32 → Int32 → Int32 → St → Option St) (l1 : Int32) (l2 : Int32) (l3 : Int32) (σ : St) : Option St := if l1 < l2 then (X0_seekWarmestBehind_b45 rec FU l1 l2 l3 0 σ) else ((X1_warmthNow σ).bind (fun x9 => if x9 ≤ (σ.1 34 2) then (some σ) else ((X1_warmthNow σ).bind (fun x24 => (X1_digits (up σ 34 2 x24)).bind (fun x35 => some (up (up σ 34 2 x24) 34 3 x35))))))
set_option maxRecDepth 100000 in
set_option maxHeartbeats 4000000 in
theorem X0_seekWarmestBehind_ok {hr : Nat} {rec : Int32 → Int32 → Int32 → St → Option St} (hH : 5 ≤ hr) (hrec0 : ∀  {l1 : Int32} {l2 : Int32} {l3 : Int32} {σ : St} {x : St}, rec l1 l2 l3 σ = some x → Ct shX hr yX0_seekWarmestBehind cX0_seekWarmestBehind 5 none (fun G => [.ref (G.2.1 34), .int l1, .int l2, .int l3]) σ (fun G => none) x) {l1 : Int32} {l2 : Int32} {l3 : Int32} {σ : St} {x : St} (h : X0_seekWarmestBehind rec l1 l2 l3 σ = some x) : Ct shX (hr + 1) yX0_seekWarmestBehind cX0_seekWarmestBehind 5 none (fun G => [.ref (G.2.1 34), .int l1, .int l2, .int l3]) σ (fun G => none) x := by
  refine Ct.of mw_X0_seekWarmestBehind.1 (by decide +kernel) (fun G => Nat.le_of_ble_eq_true rfl) (fun G p l e d s m args below meth c A hd C => ?_)
  refine (?_ : Vw shX G p l e d s m args below meth c 5 A σ 0 [(0, .ref (G.2.1 34)), (1, .int l1), (2, .int l2), (3, .int l3)] [] (none) x)
  unfold X0_seekWarmestBehind at h
  refine V_iload_n C 1 dX0_seekWarmestBehind_0 rfl rfl ?_
  refine V_iload_n C 2 dX0_seekWarmestBehind_1 rfl rfl ?_
  by_cases c4 : l1 < l2
  · rw [if_pos c4] at h
    refine V_icmp_ltT C 42 dX0_seekWarmestBehind_2 (by decide) c4 ?_
    refine V_iconst C (w := 0) dX0_seekWarmestBehind_42 (by decide) ?_
    refine V_istore C (lv' := [(4, .int 0), (0, .ref (G.2.1 34)), (1, .int l1), (2, .int l2), (3, .int l3)]) dX0_seekWarmestBehind_43 (by decide) rfl ?_
    refine V_sub (lv' := [(0, .ref (G.2.1 34)), (1, .int l1), (2, .int l2), (3, .int l3), (4, .int 0)]) [1, 2, 3, 4, 0] rfl ?_
    exact X0_seekWarmestBehind_b45_ok C hd hH hrec0 FU h
  · rw [if_neg c4] at h
    refine V_icmp_ltF C 42 dX0_seekWarmestBehind_2 (by decide) c4 ?_
    refine V_aload_n C 0 dX0_seekWarmestBehind_5 rfl rfl ?_
    refine fg0_31 (r := 27) C oX_34 rfl dX0_seekWarmestBehind_6 ?_
    obtain ⟨x9, h9, h⟩ := Option.bind_eq_some_iff.mp h
    refine V_callVi (As := []) C (X1_warmthNow_ok h9) mw_X1_warmthNow.1 mw_X1_warmthNow.2.1 mw_X1_warmthNow.2.2 q0_53 oX_27.1 oX_27.2.1 (by decide) rfl rfl (by omega) rfl rfl rfl (Nat.le_of_ble_eq_true rfl) dX0_seekWarmestBehind_9 ?_
    refine V_aload_n C 0 dX0_seekWarmestBehind_12 rfl rfl ?_
    refine fg0_9 C oX_34 dX0_seekWarmestBehind_13 ?_
    by_cases c5 : x9 ≤ (σ.1 34 2)
    · rw [if_pos c5] at h
      refine V_icmp_leT C 41 dX0_seekWarmestBehind_16 (by decide) c5 ?_
      obtain rfl := Option.some.inj h
      exact V_vret C rfl dX0_seekWarmestBehind_41
    · rw [if_neg c5] at h
      refine V_icmp_leF C 41 dX0_seekWarmestBehind_16 (by decide) c5 ?_
      refine V_aload_n C 0 dX0_seekWarmestBehind_19 rfl rfl ?_
      refine V_aload_n C 0 dX0_seekWarmestBehind_20 rfl rfl ?_
      refine fg0_31 (r := 27) C oX_34 rfl dX0_seekWarmestBehind_21 ?_
      obtain ⟨x24, h24, h⟩ := Option.bind_eq_some_iff.mp h
      refine V_callVi (As := []) C (X1_warmthNow_ok h24) mw_X1_warmthNow.1 mw_X1_warmthNow.2.1 mw_X1_warmthNow.2.2 q0_53 oX_27.1 oX_27.2.1 (by decide) rfl rfl (by omega) rfl rfl rfl (Nat.le_of_ble_eq_true rfl) dX0_seekWarmestBehind_24 ?_
      refine fp0_9 C oX_34 dX0_seekWarmestBehind_27 ?_
      refine V_aload_n C 0 dX0_seekWarmestBehind_30 rfl rfl ?_
      refine V_aload_n C 0 dX0_seekWarmestBehind_31 rfl rfl ?_
      refine fg0_31 (r := 27) C oX_34 rfl dX0_seekWarmestBehind_32 ?_
      obtain ⟨x35, h35, h⟩ := Option.bind_eq_some_iff.mp h
      refine V_callVi (As := []) C (X1_digits_ok h35) mw_X1_digits.1 mw_X1_digits.2.1 mw_X1_digits.2.2 q0_57 oX_27.1 oX_27.2.1 (by decide) rfl rfl (by omega) rfl rfl rfl (Nat.le_of_ble_eq_true rfl) dX0_seekWarmestBehind_35 ?_
      refine fp0_15 C oX_34 dX0_seekWarmestBehind_38 ?_
      obtain rfl := Option.some.inj h
      exact V_vret C rfl dX0_seekWarmestBehind_41
def X0_seekWarmestBehind_K : Nat → Int32 → Int32 → Int32 → St → Option St
  | 0, _, _, _, _ => none
  | n + 1, l1, l2, l3, σ => X0_seekWarmestBehind (X0_seekWarmestBehind_K n) l1 l2 l3 σ
theorem X0_seekWarmestBehind_K_ok : ∀ n : Nat, (∀  {l1 : Int32} {l2 : Int32} {l3 : Int32} {σ : St} {x : St}, X0_seekWarmestBehind_K n l1 l2 l3 σ = some x → Ct shX (5 + 1 * n) yX0_seekWarmestBehind cX0_seekWarmestBehind 5 none (fun G => [.ref (G.2.1 34), .int l1, .int l2, .int l3]) σ (fun G => none) x) := by
  intro n
  induction n with
  | zero => refine fun h => by cases h
  | succ n ih =>
    refine fun h => Ct.mono (show 5 + 1 * n + 1 ≤ 5 + 1 * (n + 1) by omega) (X0_seekWarmestBehind_ok (hr := 5 + 1 * n) (rec := X0_seekWarmestBehind_K n) (by omega) ih (by exact h))
theorem X0_seekWarmestBehind_okK {l1 : Int32} {l2 : Int32} {l3 : Int32} {σ : St} {x : St} (h : X0_seekWarmestBehind (X0_seekWarmestBehind_K FR) l1 l2 l3 σ = some x) : Ct shX 14 yX0_seekWarmestBehind cX0_seekWarmestBehind 5 none (fun G => [.ref (G.2.1 34), .int l1, .int l2, .int l3]) σ (fun G => none) x := Ct.mono (show 5 + 1 * FR + 1 ≤ 14 by decide) (X0_seekWarmestBehind_ok (hr := 5 + 1 * FR) (by omega) (X0_seekWarmestBehind_K_ok FR) h)
def X0_seekWarmest_b49 (l1 : Int32) (s0 : Int32) (s1 : Int32) (σ : St) : Option St := (X0_seekWarmestBehind (X0_seekWarmestBehind_K FR) s1 s0 l1 σ).bind (fun x50 => some x50)
set_option maxRecDepth 100000 in
set_option maxHeartbeats 4000000 in
theorem X0_seekWarmest_b49_ok {G : Gx} {p : Program} {l : Launch} {e : Env} {d : Nat} {s : State} {m : MethodId} {args : Array Value} {below : List Frame} {meth : Method} {c : Code} {A : Nat → Prop} (C : OK shX G p s m args meth c RX0 cX0_seekWarmest 2 none A) (hd : 15 ≤ d) {l1 : Int32} {s0 : Int32} {s1 : Int32} {σ : St} {x : St} (h : X0_seekWarmest_b49 l1 s0 s1 σ = some x) : Vw shX G p l e d s m args below meth c 2 A σ 49 [(1, .int l1)] [.int s0, .int s1, .ref (G.2.1 34)] (none) x := by
  unfold X0_seekWarmest_b49 at h
  refine V_iload_n C 0 dX0_seekWarmest_49 rfl rfl ?_
  obtain ⟨x50, h50, h⟩ := Option.bind_eq_some_iff.mp h
  refine V_callVv (As := [.int s1, .int s0, .int l1]) C (X0_seekWarmestBehind_okK h50) mw_X0_seekWarmestBehind.1 mw_X0_seekWarmestBehind.2.1 mw_X0_seekWarmestBehind.2.2 q0_49 oX_34.1 oX_34.2.1 (by decide) rfl rfl (by omega) rfl rfl rfl (Nat.le_of_ble_eq_true rfl) dX0_seekWarmest_50 ?_
  obtain rfl := Option.some.inj h
  exact V_vret C rfl dX0_seekWarmest_53
def X0_seekWarmest (l1 : Int32) (σ : St) : Option St := (X1_begin (up (up σ 34 2 (-1)) 34 3 0)).bind (fun x14 => (X5_has 1 l1 x14).bind (fun x24 => if x24 = 0 then (X0_seekWarmest_b49 l1 (x14.1 1 5) 0 x14) else (X0_seekWarmest_b49 l1 ((x14.1 1 5) - 1) 0 x14)))
set_option maxRecDepth 100000 in
set_option maxHeartbeats 4000000 in
theorem X0_seekWarmest_ok {l1 : Int32} {σ : St} {x : St} (h : X0_seekWarmest l1 σ = some x) : Ct shX (15) yX0_seekWarmest cX0_seekWarmest 2 none (fun G => [.ref (G.2.1 34), .int l1]) σ (fun G => none) x := by
  refine Ct.of mw_X0_seekWarmest.1 (by decide +kernel) (fun G => Nat.le_of_ble_eq_true rfl) (fun G p l e d s m args below meth c A hd C => ?_)
  refine (?_ : Vw shX G p l e d s m args below meth c 2 A σ 0 [(0, .ref (G.2.1 34)), (1, .int l1)] [] (none) x)
  unfold X0_seekWarmest at h
  refine V_aload_n C 0 dX0_seekWarmest_0 rfl rfl ?_
  refine V_iconst C (w := (-1)) dX0_seekWarmest_1 (by decide) ?_
  refine fp0_9 C oX_34 dX0_seekWarmest_2 ?_
  refine V_aload_n C 0 dX0_seekWarmest_5 rfl rfl ?_
  refine V_iconst C (w := 0) dX0_seekWarmest_6 (by decide) ?_
  refine fp0_15 C oX_34 dX0_seekWarmest_7 ?_
  refine V_aload_n C 0 dX0_seekWarmest_10 rfl rfl ?_
  refine fg0_31 (r := 27) C oX_34 rfl dX0_seekWarmest_11 ?_
  obtain ⟨x14, h14, h⟩ := Option.bind_eq_some_iff.mp h
  refine V_callVv (As := []) C (X1_begin_ok h14) mw_X1_begin.1 mw_X1_begin.2.1 mw_X1_begin.2.2 q0_35 oX_27.1 oX_27.2.1 (by decide) rfl rfl (by omega) rfl rfl rfl (Nat.le_of_ble_eq_true rfl) dX0_seekWarmest_14 ?_
  refine V_aload_n C 0 dX0_seekWarmest_17 rfl rfl ?_
  refine V_iconst C (w := 0) dX0_seekWarmest_18 (by decide) ?_
  refine V_aload_n C 0 dX0_seekWarmest_19 rfl rfl ?_
  refine fg0_27 (r := 1) C oX_34 rfl dX0_seekWarmest_20 ?_
  refine V_iload_n C 1 dX0_seekWarmest_23 rfl rfl ?_
  obtain ⟨x24, h24, h⟩ := Option.bind_eq_some_iff.mp h
  refine V_callVi (As := [.int l1]) C (X5_has_ok h24) mw_X5_has.1 mw_X5_has.2.1 mw_X5_has.2.2 q0_40 oX_1.1 oX_1.2.1 (by decide) rfl rfl (by omega) rfl rfl rfl (Nat.le_of_ble_eq_true rfl) dX0_seekWarmest_24 ?_
  by_cases c1 : x24 = 0
  · rw [if_pos c1] at h
    refine V_if_eqT C 42 dX0_seekWarmest_27 (by decide) c1 ?_
    refine V_aload_n C 0 dX0_seekWarmest_42 rfl rfl ?_
    refine fg0_27 (r := 1) C oX_34 rfl dX0_seekWarmest_43 ?_
    refine fg0_46 C oX_1 dX0_seekWarmest_46 ?_
    refine V_sub (lv' := [(1, .int l1)]) [1] rfl ?_
    exact X0_seekWarmest_b49_ok C hd h
  · rw [if_neg c1] at h
    refine V_if_eqF C 42 dX0_seekWarmest_27 (by decide) c1 ?_
    refine V_aload_n C 0 dX0_seekWarmest_30 rfl rfl ?_
    refine fg0_27 (r := 1) C oX_34 rfl dX0_seekWarmest_31 ?_
    refine fg0_46 C oX_1 dX0_seekWarmest_34 ?_
    refine V_iconst C (w := 1) dX0_seekWarmest_37 (by decide) ?_
    refine V_isub C dX0_seekWarmest_38 ?_
    refine V_goto C 49 dX0_seekWarmest_39 (by decide) ?_
    refine V_sub (lv' := [(1, .int l1)]) [1] rfl ?_
    exact X0_seekWarmest_b49_ok C hd h
def X0_isSooner (l1 : Int32) (σ : St) : Option Int32 := if (σ.1 1 5) ≤ l1 then (some 0) else (if (σ.1 34 4) = (-1) then (some 1) else (if (σ.1 34 4) ≤ l1 then (some 0) else (some 1)))
set_option maxRecDepth 100000 in
set_option maxHeartbeats 4000000 in
theorem X0_isSooner_ok {l1 : Int32} {σ : St} {x : Int32} (h : X0_isSooner l1 σ = some x) : Ct shX (1) yX0_isSooner cX0_isSooner 2 (some FieldType.boolean) (fun G => [.ref (G.2.1 34), .int l1]) σ (fun G => some (.int x)) σ := by
  refine Ct.of mw_X0_isSooner.1 (by decide +kernel) (fun G => Nat.le_of_ble_eq_true rfl) (fun G p l e d s m args below meth c A hd C => ?_)
  refine (?_ : Vw shX G p l e d s m args below meth c 2 A σ 0 [(0, .ref (G.2.1 34)), (1, .int l1)] [] (some (.int x)) σ)
  unfold X0_isSooner at h
  refine V_iload_n C 1 dX0_isSooner_0 rfl rfl ?_
  refine V_aload_n C 0 dX0_isSooner_1 rfl rfl ?_
  refine fg0_27 (r := 1) C oX_34 rfl dX0_isSooner_2 ?_
  refine fg0_46 C oX_1 dX0_isSooner_5 ?_
  by_cases c1 : (σ.1 1 5) ≤ l1
  · rw [if_pos c1] at h
    refine V_icmp_geT C 31 dX0_isSooner_8 (by decide) c1 ?_
    refine V_iconst C (w := 0) dX0_isSooner_31 (by decide) ?_
    obtain rfl := Option.some.inj h
    exact V_iret C rfl (nz (Or.inl rfl)) dX0_isSooner_32
  · rw [if_neg c1] at h
    refine V_icmp_geF C 31 dX0_isSooner_8 (by decide) c1 ?_
    refine V_aload_n C 0 dX0_isSooner_11 rfl rfl ?_
    refine fg0_18 C oX_34 dX0_isSooner_12 ?_
    refine V_iconst C (w := (-1)) dX0_isSooner_15 (by decide) ?_
    by_cases c2 : (σ.1 34 4) = (-1)
    · rw [if_pos c2] at h
      refine V_icmp_eqT C 27 dX0_isSooner_16 (by decide) c2 ?_
      refine V_iconst C (w := 1) dX0_isSooner_27 (by decide) ?_
      refine V_goto C 32 dX0_isSooner_28 (by decide) ?_
      obtain rfl := Option.some.inj h
      exact V_iret C rfl (nz (Or.inr rfl)) dX0_isSooner_32
    · rw [if_neg c2] at h
      refine V_icmp_eqF C 27 dX0_isSooner_16 (by decide) c2 ?_
      refine V_iload_n C 1 dX0_isSooner_19 rfl rfl ?_
      refine V_aload_n C 0 dX0_isSooner_20 rfl rfl ?_
      refine fg0_18 C oX_34 dX0_isSooner_21 ?_
      by_cases c3 : (σ.1 34 4) ≤ l1
      · rw [if_pos c3] at h
        refine V_icmp_geT C 31 dX0_isSooner_24 (by decide) c3 ?_
        refine V_iconst C (w := 0) dX0_isSooner_31 (by decide) ?_
        obtain rfl := Option.some.inj h
        exact V_iret C rfl (nz (Or.inl rfl)) dX0_isSooner_32
      · rw [if_neg c3] at h
        refine V_icmp_geF C 31 dX0_isSooner_24 (by decide) c3 ?_
        refine V_iconst C (w := 1) dX0_isSooner_27 (by decide) ?_
        refine V_goto C 32 dX0_isSooner_28 (by decide) ?_
        obtain rfl := Option.some.inj h
        exact V_iret C rfl (nz (Or.inr rfl)) dX0_isSooner_32
def X1_firstBoil_b2 : Nat → Int32 → St → Option Int32
  | 0, _, _ => none
  | F + 1, l1, σ => if (σ.1 27 8) ≤ l1 then (some (-1)) else (if 5 ≤ l1 then (some (-1)) else (if ob l1 5 then none else (if (σ.1 32 (l1).toNatClampNeg) = 0 then (X1_firstBoil_b2 F (l1 + 1) σ) else (some l1))))
set_option maxRecDepth 100000 in
set_option maxHeartbeats 4000000 in
theorem X1_firstBoil_b2_ok {G : Gx} {p : Program} {l : Launch} {e : Env} {d : Nat} {s : State} {m : MethodId} {args : Array Value} {below : List Frame} {meth : Method} {c : Code} {A : Nat → Prop} (C : OK shX G p s m args meth c RX1 cX1_firstBoil 2 (some FieldType.int) A) (hd : 1 ≤ d) : ∀ (F : Nat) {l1 : Int32} {σ : St} {x : Int32} (h : X1_firstBoil_b2 F l1 σ = some x), Vw shX G p l e d s m args below meth c 2 A σ 2 [(0, .ref (G.2.1 27)), (1, .int l1)] [] (some (.int x)) σ := by
  intro F
  induction F with
  | zero =>
    intro l1 σ x h
    rw [X1_firstBoil_b2] at h
    cases h
  | succ F ih =>
    intro l1 σ x h
    rw [X1_firstBoil_b2] at h
    refine V_iload_n C 1 dX1_firstBoil_2 rfl rfl ?_
    refine V_aload_n C 0 dX1_firstBoil_3 rfl rfl ?_
    refine fg1_35 C oX_27 dX1_firstBoil_4 ?_
    by_cases c1 : (σ.1 27 8) ≤ l1
    · rw [if_pos c1] at h
      refine V_icmp_geT C 36 dX1_firstBoil_7 (by decide) c1 ?_
      refine V_iconst C (w := (-1)) dX1_firstBoil_36 (by decide) ?_
      obtain rfl := Option.some.inj h
      exact V_iret C rfl rfl dX1_firstBoil_37
    · rw [if_neg c1] at h
      refine V_icmp_geF C 36 dX1_firstBoil_7 (by decide) c1 ?_
      refine V_iload_n C 1 dX1_firstBoil_10 rfl rfl ?_
      refine V_aload_n C 0 dX1_firstBoil_11 rfl rfl ?_
      refine fg1_28 (r := 32) C oX_27 rfl dX1_firstBoil_12 ?_
      refine V_alenZ C oX_32.1 oX_32.2.1 (w := 5) rfl dX1_firstBoil_15 ?_
      by_cases c2 : 5 ≤ l1
      · rw [if_pos c2] at h
        refine V_icmp_geT C 36 dX1_firstBoil_16 (by decide) c2 ?_
        refine V_iconst C (w := (-1)) dX1_firstBoil_36 (by decide) ?_
        obtain rfl := Option.some.inj h
        exact V_iret C rfl rfl dX1_firstBoil_37
      · rw [if_neg c2] at h
        refine V_icmp_geF C 36 dX1_firstBoil_16 (by decide) c2 ?_
        refine V_aload_n C 0 dX1_firstBoil_19 rfl rfl ?_
        refine fg1_28 (r := 32) C oX_27 rfl dX1_firstBoil_20 ?_
        refine V_iload_n C 1 dX1_firstBoil_23 rfl rfl ?_
        have g3 : ¬ (ob l1 5) := fun g9 => by rw [if_pos g9] at h; cases h
        rw [if_neg g3] at h
        refine V_zaldO C oX_32 g3 dX1_firstBoil_24 ?_
        by_cases c4 : (σ.1 32 (l1).toNatClampNeg) = 0
        · rw [if_pos c4] at h
          refine V_if_eqT C 30 dX1_firstBoil_25 (by decide) c4 ?_
          refine V_iinc C (w := (l1 + 1)) (lv' := [(1, .int (l1 + 1)), (0, .ref (G.2.1 27))]) 1 dX1_firstBoil_30 rfl (congrArg (l1 + ·) (show Int32.ofInt 1 = 1 by decide)) (by decide) rfl ?_
          refine V_goto C 2 dX1_firstBoil_33 (by decide) ?_
          refine V_sub (lv' := [(0, .ref (G.2.1 27)), (1, .int (l1 + 1))]) [1, 0] rfl ?_
          exact ih h
        · rw [if_neg c4] at h
          refine V_if_eqF C 30 dX1_firstBoil_25 (by decide) c4 ?_
          refine V_iload_n C 1 dX1_firstBoil_28 rfl rfl ?_
          obtain rfl := Option.some.inj h
          exact V_iret C rfl rfl dX1_firstBoil_29
def X1_firstBoil (σ : St) : Option Int32 := X1_firstBoil_b2 FU 0 σ
set_option maxRecDepth 100000 in
set_option maxHeartbeats 4000000 in
theorem X1_firstBoil_ok {σ : St} {x : Int32} (h : X1_firstBoil σ = some x) : Ct shX (1) yX1_firstBoil cX1_firstBoil 2 (some FieldType.int) (fun G => [.ref (G.2.1 27)]) σ (fun G => some (.int x)) σ := by
  refine Ct.of mw_X1_firstBoil.1 (by decide +kernel) (fun G => Nat.le_of_ble_eq_true rfl) (fun G p l e d s m args below meth c A hd C => ?_)
  refine (?_ : Vw shX G p l e d s m args below meth c 2 A σ 0 [(0, .ref (G.2.1 27))] [] (some (.int x)) σ)
  unfold X1_firstBoil at h
  refine V_iconst C (w := 0) dX1_firstBoil_0 (by decide) ?_
  refine V_istore_n C (lv' := [(1, .int 0), (0, .ref (G.2.1 27))]) dX1_firstBoil_1 rfl (by decide) rfl ?_
  refine V_sub (lv' := [(0, .ref (G.2.1 27)), (1, .int 0)]) [1, 0] rfl ?_
  exact X1_firstBoil_b2_ok C hd FU h
def X1_digitsOfAll_b7 : Nat → Int32 → Int32 → St → Option Int32
  | 0, _, _, _ => none
  | F + 1, l1, l2, σ => if (σ.1 1 5) ≤ l2 then (some l1) else ((X1_hasCome l2 σ).bind (fun x20 => if x20 = 0 then (X1_digitsOfAll_b7 F (((l1 * 10) + l2) + 1) (l2 + 1) σ) else (X1_digitsOfAll_b7 F l1 (l2 + 1) σ)))
set_option maxRecDepth 100000 in
set_option maxHeartbeats 4000000 in
theorem X1_digitsOfAll_b7_ok {G : Gx} {p : Program} {l : Launch} {e : Env} {d : Nat} {s : State} {m : MethodId} {args : Array Value} {below : List Frame} {meth : Method} {c : Code} {A : Nat → Prop} (C : OK shX G p s m args meth c RX1 cX1_digitsOfAll 3 (some FieldType.int) A) (hd : 3 ≤ d) : ∀ (F : Nat) {l1 : Int32} {l2 : Int32} {σ : St} {x : Int32} (h : X1_digitsOfAll_b7 F l1 l2 σ = some x), Vw shX G p l e d s m args below meth c 3 A σ 7 [(0, .ref (G.2.1 27)), (1, .int l1), (2, .int l2)] [] (some (.int x)) σ := by
  intro F
  induction F with
  | zero =>
    intro l1 l2 σ x h
    rw [X1_digitsOfAll_b7] at h
    cases h
  | succ F ih =>
    intro l1 l2 σ x h
    rw [X1_digitsOfAll_b7] at h
    refine V_iload_n C 2 dX1_digitsOfAll_7 rfl rfl ?_
    refine V_aload_n C 0 dX1_digitsOfAll_8 rfl rfl ?_
    refine fg1_42 (r := 1) C oX_27 rfl dX1_digitsOfAll_9 ?_
    refine fg1_107 C oX_1 dX1_digitsOfAll_12 ?_
    by_cases c1 : (σ.1 1 5) ≤ l2
    · rw [if_pos c1] at h
      refine V_icmp_geT C 41 dX1_digitsOfAll_15 (by decide) c1 ?_
      refine V_iload_n C 1 dX1_digitsOfAll_41 rfl rfl ?_
      obtain rfl := Option.some.inj h
      exact V_iret C rfl rfl dX1_digitsOfAll_42
    · rw [if_neg c1] at h
      refine V_icmp_geF C 41 dX1_digitsOfAll_15 (by decide) c1 ?_
      refine V_aload_n C 0 dX1_digitsOfAll_18 rfl rfl ?_
      refine V_iload_n C 2 dX1_digitsOfAll_19 rfl rfl ?_
      obtain ⟨x20, h20, h⟩ := Option.bind_eq_some_iff.mp h
      refine V_callVi (As := [.int l2]) C (X1_hasCome_ok h20) mw_X1_hasCome.1 mw_X1_hasCome.2.1 mw_X1_hasCome.2.2 q1_56 oX_27.1 oX_27.2.1 (by decide) rfl rfl (by omega) rfl rfl rfl (Nat.le_of_ble_eq_true rfl) dX1_digitsOfAll_20 ?_
      by_cases c2 : x20 = 0
      · rw [if_pos c2] at h
        refine V_if_neF C 35 dX1_digitsOfAll_23 (by decide) c2 ?_
        refine V_iload_n C 1 dX1_digitsOfAll_26 rfl rfl ?_
        refine V_bipush C (w := 10) dX1_digitsOfAll_27 (by decide) ?_
        refine V_imul C dX1_digitsOfAll_29 ?_
        refine V_iload_n C 2 dX1_digitsOfAll_30 rfl rfl ?_
        refine V_iadd C dX1_digitsOfAll_31 ?_
        refine V_iconst C (w := 1) dX1_digitsOfAll_32 (by decide) ?_
        refine V_iadd C dX1_digitsOfAll_33 ?_
        refine V_istore_n C (lv' := [(1, .int (((l1 * 10) + l2) + 1)), (0, .ref (G.2.1 27)), (2, .int l2)]) dX1_digitsOfAll_34 rfl (by decide) rfl ?_
        refine V_iinc C (w := (l2 + 1)) (lv' := [(2, .int (l2 + 1)), (1, .int (((l1 * 10) + l2) + 1)), (0, .ref (G.2.1 27))]) 2 dX1_digitsOfAll_35 rfl (congrArg (l2 + ·) (show Int32.ofInt 1 = 1 by decide)) (by decide) rfl ?_
        refine V_goto C 7 dX1_digitsOfAll_38 (by decide) ?_
        refine V_sub (lv' := [(0, .ref (G.2.1 27)), (1, .int (((l1 * 10) + l2) + 1)), (2, .int (l2 + 1))]) [2, 1, 0] rfl ?_
        exact ih h
      · rw [if_neg c2] at h
        refine V_if_neT C 35 dX1_digitsOfAll_23 (by decide) c2 ?_
        refine V_iinc C (w := (l2 + 1)) (lv' := [(2, .int (l2 + 1)), (0, .ref (G.2.1 27)), (1, .int l1)]) 2 dX1_digitsOfAll_35 rfl (congrArg (l2 + ·) (show Int32.ofInt 1 = 1 by decide)) (by decide) rfl ?_
        refine V_goto C 7 dX1_digitsOfAll_38 (by decide) ?_
        refine V_sub (lv' := [(0, .ref (G.2.1 27)), (1, .int l1), (2, .int (l2 + 1))]) [1, 2, 0] rfl ?_
        exact ih h
def X1_digitsOfAll (σ : St) : Option Int32 := (X1_digits σ).bind (fun x1 => X1_digitsOfAll_b7 FU x1 0 σ)
set_option maxRecDepth 100000 in
set_option maxHeartbeats 4000000 in
theorem X1_digitsOfAll_ok {σ : St} {x : Int32} (h : X1_digitsOfAll σ = some x) : Ct shX (3) yX1_digitsOfAll cX1_digitsOfAll 3 (some FieldType.int) (fun G => [.ref (G.2.1 27)]) σ (fun G => some (.int x)) σ := by
  refine Ct.of mw_X1_digitsOfAll.1 (by decide +kernel) (fun G => Nat.le_of_ble_eq_true rfl) (fun G p l e d s m args below meth c A hd C => ?_)
  refine (?_ : Vw shX G p l e d s m args below meth c 3 A σ 0 [(0, .ref (G.2.1 27))] [] (some (.int x)) σ)
  unfold X1_digitsOfAll at h
  refine V_aload_n C 0 dX1_digitsOfAll_0 rfl rfl ?_
  obtain ⟨x1, h1, h⟩ := Option.bind_eq_some_iff.mp h
  refine V_callVi (As := []) C (X1_digits_ok h1) mw_X1_digits.1 mw_X1_digits.2.1 mw_X1_digits.2.2 q1_158 oX_27.1 oX_27.2.1 (by decide) rfl rfl (by omega) rfl rfl rfl (Nat.le_of_ble_eq_true rfl) dX1_digitsOfAll_1 ?_
  refine V_istore_n C (lv' := [(1, .int x1), (0, .ref (G.2.1 27))]) dX1_digitsOfAll_4 rfl (by decide) rfl ?_
  refine V_iconst C (w := 0) dX1_digitsOfAll_5 (by decide) ?_
  refine V_istore_n C (lv' := [(2, .int 0), (1, .int x1), (0, .ref (G.2.1 27))]) dX1_digitsOfAll_6 rfl (by decide) rfl ?_
  refine V_sub (lv' := [(0, .ref (G.2.1 27)), (1, .int x1), (2, .int 0)]) [2, 1, 0] rfl ?_
  exact X1_digitsOfAll_b7_ok C hd FU h
def X0_seekSoonestBehind_b83 (rec : Int32 → St → Option St) (K2 : Int32 → Int32 → St → Option St) (l1 : Int32) (l2 : Int32) (σ : St) : Option St := (X1_goBack σ).bind (fun x87 => K2 l1 (l2 + 1) x87)
set_option maxRecDepth 100000 in
set_option maxHeartbeats 4000000 in
theorem X0_seekSoonestBehind_b83_ok {G : Gx} {p : Program} {l : Launch} {e : Env} {d : Nat} {s : State} {m : MethodId} {args : Array Value} {below : List Frame} {meth : Method} {c : Code} {A : Nat → Prop} {hr : Nat} {rec : Int32 → St → Option St} {K2 : Int32 → Int32 → St → Option St} (C : OK shX G p s m args meth c RX0 cX0_seekSoonestBehind 3 none A) (hd : hr + 1 ≤ d) (hH : 5 ≤ hr) (hrec0 : ∀  {l1 : Int32} {σ : St} {x : St}, rec l1 σ = some x → Ct shX hr yX0_seekSoonestBehind cX0_seekSoonestBehind 3 none (fun G => [.ref (G.2.1 34), .int l1]) σ (fun G => none) x) (hK2 : ∀  {l1 : Int32} {l2 : Int32} {σ : St} {x : St}, K2 l1 l2 σ = some x → Vw shX G p l e d s m args below meth c 3 A σ 2 [(0, .ref (G.2.1 34)), (1, .int l1), (2, .int l2)] [] (none) x) {l1 : Int32} {l2 : Int32} {σ : St} {x : St} (h : X0_seekSoonestBehind_b83 rec K2 l1 l2 σ = some x) : Vw shX G p l e d s m args below meth c 3 A σ 83 [(0, .ref (G.2.1 34)), (1, .int l1), (2, .int l2)] [] (none) x := by
  unfold X0_seekSoonestBehind_b83 at h
  refine V_aload_n C 0 dX0_seekSoonestBehind_83 rfl rfl ?_
  refine fg0_31 (r := 27) C oX_34 rfl dX0_seekSoonestBehind_84 ?_
  obtain ⟨x87, h87, h⟩ := Option.bind_eq_some_iff.mp h
  refine V_callVv (As := []) C (X1_goBack_ok h87) mw_X1_goBack.1 mw_X1_goBack.2.1 mw_X1_goBack.2.2 q0_63 oX_27.1 oX_27.2.1 (by decide) rfl rfl (by omega) rfl rfl rfl (Nat.le_of_ble_eq_true rfl) dX0_seekSoonestBehind_87 ?_
  refine V_iinc C (w := (l2 + 1)) (lv' := [(2, .int (l2 + 1)), (0, .ref (G.2.1 34)), (1, .int l1)]) 2 dX0_seekSoonestBehind_90 rfl (congrArg (l2 + ·) (show Int32.ofInt 1 = 1 by decide)) (by decide) rfl ?_
  refine V_goto C 2 dX0_seekSoonestBehind_93 (by decide) ?_
  refine V_sub (lv' := [(0, .ref (G.2.1 34)), (1, .int l1), (2, .int (l2 + 1))]) [1, 2, 0] rfl ?_
  exact hK2 h
def X0_seekSoonestBehind_b2 (rec : Int32 → St → Option St) : Nat → Int32 → Int32 → St → Option St
  | 0, _, _, _ => none
  | F + 1, l1, l2, σ => if (σ.1 1 5) ≤ l2 then (some σ) else ((X0_isSooner l1 σ).bind (fun x15 => if x15 = 0 then (some σ) else ((X1_comeUp l2 σ).bind (fun x26 => if x26.1 = 0 then (X0_seekSoonestBehind_b2 rec F l1 (l2 + 1) x26.2) else ((X1_firstBoil x26.2).bind (fun x39 => if x39 = (-1) then ((rec (l1 + 1) x26.2).bind (fun x50 => X0_seekSoonestBehind_b83 rec (X0_seekSoonestBehind_b2 rec F) l1 l2 x50)) else ((X1_digits (up x26.2 34 4 l1)).bind (fun x66 => (X1_digitsOfAll (up (up x26.2 34 4 l1) 34 5 x66)).bind (fun x77 => X0_seekSoonestBehind_b83 rec (X0_seekSoonestBehind_b2 rec F) l1 l2 (up (up (up x26.2 34 4 l1) 34 5 x66) 34 3 x77))))))))))
set_option maxRecDepth 100000 in
set_option maxHeartbeats 4000000 in
theorem X0_seekSoonestBehind_b2_ok {G : Gx} {p : Program} {l : Launch} {e : Env} {d : Nat} {s : State} {m : MethodId} {args : Array Value} {below : List Frame} {meth : Method} {c : Code} {A : Nat → Prop} {hr : Nat} {rec : Int32 → St → Option St} (C : OK shX G p s m args meth c RX0 cX0_seekSoonestBehind 3 none A) (hd : hr + 1 ≤ d) (hH : 5 ≤ hr) (hrec0 : ∀  {l1 : Int32} {σ : St} {x : St}, rec l1 σ = some x → Ct shX hr yX0_seekSoonestBehind cX0_seekSoonestBehind 3 none (fun G => [.ref (G.2.1 34), .int l1]) σ (fun G => none) x) : ∀ (F : Nat) {l1 : Int32} {l2 : Int32} {σ : St} {x : St} (h : X0_seekSoonestBehind_b2 rec F l1 l2 σ = some x), Vw shX G p l e d s m args below meth c 3 A σ 2 [(0, .ref (G.2.1 34)), (1, .int l1), (2, .int l2)] [] (none) x := by
  intro F
  induction F with
  | zero =>
    intro l1 l2 σ x h
    rw [X0_seekSoonestBehind_b2] at h
    cases h
  | succ F ih =>
    intro l1 l2 σ x h
    rw [X0_seekSoonestBehind_b2] at h
    refine V_iload_n C 2 dX0_seekSoonestBehind_2 rfl rfl ?_
    refine V_aload_n C 0 dX0_seekSoonestBehind_3 rfl rfl ?_
    refine fg0_27 (r := 1) C oX_34 rfl dX0_seekSoonestBehind_4 ?_
    refine fg0_46 C oX_1 dX0_seekSoonestBehind_7 ?_
    by_cases c1 : (σ.1 1 5) ≤ l2
    · rw [if_pos c1] at h
      refine V_icmp_geT C 96 dX0_seekSoonestBehind_10 (by decide) c1 ?_
      obtain rfl := Option.some.inj h
      exact V_vret C rfl dX0_seekSoonestBehind_96
    · rw [if_neg c1] at h
      refine V_icmp_geF C 96 dX0_seekSoonestBehind_10 (by decide) c1 ?_
      refine V_aload_n C 0 dX0_seekSoonestBehind_13 rfl rfl ?_
      refine V_iload_n C 1 dX0_seekSoonestBehind_14 rfl rfl ?_
      obtain ⟨x15, h15, h⟩ := Option.bind_eq_some_iff.mp h
      refine V_callVi (As := [.int l1]) C (X0_isSooner_ok h15) mw_X0_isSooner.1 mw_X0_isSooner.2.1 mw_X0_isSooner.2.2 q0_70 oX_34.1 oX_34.2.1 (by decide) rfl rfl (by omega) rfl rfl rfl (Nat.le_of_ble_eq_true rfl) dX0_seekSoonestBehind_15 ?_
      by_cases c2 : x15 = 0
      · rw [if_pos c2] at h
        refine V_if_eqT C 96 dX0_seekSoonestBehind_18 (by decide) c2 ?_
        obtain rfl := Option.some.inj h
        exact V_vret C rfl dX0_seekSoonestBehind_96
      · rw [if_neg c2] at h
        refine V_if_eqF C 96 dX0_seekSoonestBehind_18 (by decide) c2 ?_
        refine V_aload_n C 0 dX0_seekSoonestBehind_21 rfl rfl ?_
        refine fg0_31 (r := 27) C oX_34 rfl dX0_seekSoonestBehind_22 ?_
        refine V_iload_n C 2 dX0_seekSoonestBehind_25 rfl rfl ?_
        obtain ⟨x26, h26, h⟩ := Option.bind_eq_some_iff.mp h
        refine V_callVi (As := [.int l2]) C (X1_comeUp_ok h26) mw_X1_comeUp.1 mw_X1_comeUp.2.1 mw_X1_comeUp.2.2 q0_60 oX_27.1 oX_27.2.1 (by decide) rfl rfl (by omega) rfl rfl rfl (Nat.le_of_ble_eq_true rfl) dX0_seekSoonestBehind_26 ?_
        by_cases c3 : x26.1 = 0
        · rw [if_pos c3] at h
          refine V_if_neF C 35 dX0_seekSoonestBehind_29 (by decide) c3 ?_
          refine V_goto C 90 dX0_seekSoonestBehind_32 (by decide) ?_
          refine V_iinc C (w := (l2 + 1)) (lv' := [(2, .int (l2 + 1)), (0, .ref (G.2.1 34)), (1, .int l1)]) 2 dX0_seekSoonestBehind_90 rfl (congrArg (l2 + ·) (show Int32.ofInt 1 = 1 by decide)) (by decide) rfl ?_
          refine V_goto C 2 dX0_seekSoonestBehind_93 (by decide) ?_
          refine V_sub (lv' := [(0, .ref (G.2.1 34)), (1, .int l1), (2, .int (l2 + 1))]) [1, 2, 0] rfl ?_
          exact ih h
        · rw [if_neg c3] at h
          refine V_if_neT C 35 dX0_seekSoonestBehind_29 (by decide) c3 ?_
          refine V_aload_n C 0 dX0_seekSoonestBehind_35 rfl rfl ?_
          refine fg0_31 (r := 27) C oX_34 rfl dX0_seekSoonestBehind_36 ?_
          obtain ⟨x39, h39, h⟩ := Option.bind_eq_some_iff.mp h
          refine V_callVi (As := []) C (X1_firstBoil_ok h39) mw_X1_firstBoil.1 mw_X1_firstBoil.2.1 mw_X1_firstBoil.2.2 q0_73 oX_27.1 oX_27.2.1 (by decide) rfl rfl (by omega) rfl rfl rfl (Nat.le_of_ble_eq_true rfl) dX0_seekSoonestBehind_39 ?_
          refine V_iconst C (w := (-1)) dX0_seekSoonestBehind_42 (by decide) ?_
          by_cases c4 : x39 = (-1)
          · rw [if_pos c4] at h
            refine V_icmp_neF C 56 dX0_seekSoonestBehind_43 (by decide) c4 ?_
            refine V_aload_n C 0 dX0_seekSoonestBehind_46 rfl rfl ?_
            refine V_iload_n C 1 dX0_seekSoonestBehind_47 rfl rfl ?_
            refine V_iconst C (w := 1) dX0_seekSoonestBehind_48 (by decide) ?_
            refine V_iadd C dX0_seekSoonestBehind_49 ?_
            obtain ⟨x50, h50, h⟩ := Option.bind_eq_some_iff.mp h
            refine V_callVv (As := [.int (l1 + 1)]) C (hrec0 h50) mw_X0_seekSoonestBehind.1 mw_X0_seekSoonestBehind.2.1 mw_X0_seekSoonestBehind.2.2 q0_66 oX_34.1 oX_34.2.1 (by decide) rfl rfl (by omega) rfl rfl rfl (Nat.le_of_ble_eq_true rfl) dX0_seekSoonestBehind_50 ?_
            refine V_goto C 83 dX0_seekSoonestBehind_53 (by decide) ?_
            exact X0_seekSoonestBehind_b83_ok C hd hH hrec0 (fun h => ih h) h
          · rw [if_neg c4] at h
            refine V_icmp_neT C 56 dX0_seekSoonestBehind_43 (by decide) c4 ?_
            refine V_aload_n C 0 dX0_seekSoonestBehind_56 rfl rfl ?_
            refine V_iload_n C 1 dX0_seekSoonestBehind_57 rfl rfl ?_
            refine fp0_18 C oX_34 dX0_seekSoonestBehind_58 ?_
            refine V_aload_n C 0 dX0_seekSoonestBehind_61 rfl rfl ?_
            refine V_aload_n C 0 dX0_seekSoonestBehind_62 rfl rfl ?_
            refine fg0_31 (r := 27) C oX_34 rfl dX0_seekSoonestBehind_63 ?_
            obtain ⟨x66, h66, h⟩ := Option.bind_eq_some_iff.mp h
            refine V_callVi (As := []) C (X1_digits_ok h66) mw_X1_digits.1 mw_X1_digits.2.1 mw_X1_digits.2.2 q0_57 oX_27.1 oX_27.2.1 (by decide) rfl rfl (by omega) rfl rfl rfl (Nat.le_of_ble_eq_true rfl) dX0_seekSoonestBehind_66 ?_
            refine fp0_21 C oX_34 dX0_seekSoonestBehind_69 ?_
            refine V_aload_n C 0 dX0_seekSoonestBehind_72 rfl rfl ?_
            refine V_aload_n C 0 dX0_seekSoonestBehind_73 rfl rfl ?_
            refine fg0_31 (r := 27) C oX_34 rfl dX0_seekSoonestBehind_74 ?_
            obtain ⟨x77, h77, h⟩ := Option.bind_eq_some_iff.mp h
            refine V_callVi (As := []) C (X1_digitsOfAll_ok h77) mw_X1_digitsOfAll.1 mw_X1_digitsOfAll.2.1 mw_X1_digitsOfAll.2.2 q0_76 oX_27.1 oX_27.2.1 (by decide) rfl rfl (by omega) rfl rfl rfl (Nat.le_of_ble_eq_true rfl) dX0_seekSoonestBehind_77 ?_
            refine fp0_15 C oX_34 dX0_seekSoonestBehind_80 ?_
            exact X0_seekSoonestBehind_b83_ok C hd hH hrec0 (fun h => ih h) h
def X0_seekSoonestBehind (rec : Int32 → St → Option St) (l1 : Int32) (σ : St) : Option St := X0_seekSoonestBehind_b2 rec FU l1 0 σ
set_option maxRecDepth 100000 in
set_option maxHeartbeats 4000000 in
theorem X0_seekSoonestBehind_ok {hr : Nat} {rec : Int32 → St → Option St} (hH : 5 ≤ hr) (hrec0 : ∀  {l1 : Int32} {σ : St} {x : St}, rec l1 σ = some x → Ct shX hr yX0_seekSoonestBehind cX0_seekSoonestBehind 3 none (fun G => [.ref (G.2.1 34), .int l1]) σ (fun G => none) x) {l1 : Int32} {σ : St} {x : St} (h : X0_seekSoonestBehind rec l1 σ = some x) : Ct shX (hr + 1) yX0_seekSoonestBehind cX0_seekSoonestBehind 3 none (fun G => [.ref (G.2.1 34), .int l1]) σ (fun G => none) x := by
  refine Ct.of mw_X0_seekSoonestBehind.1 (by decide +kernel) (fun G => Nat.le_of_ble_eq_true rfl) (fun G p l e d s m args below meth c A hd C => ?_)
  refine (?_ : Vw shX G p l e d s m args below meth c 3 A σ 0 [(0, .ref (G.2.1 34)), (1, .int l1)] [] (none) x)
  unfold X0_seekSoonestBehind at h
  refine V_iconst C (w := 0) dX0_seekSoonestBehind_0 (by decide) ?_
  refine V_istore_n C (lv' := [(2, .int 0), (0, .ref (G.2.1 34)), (1, .int l1)]) dX0_seekSoonestBehind_1 rfl (by decide) rfl ?_
  refine V_sub (lv' := [(0, .ref (G.2.1 34)), (1, .int l1), (2, .int 0)]) [1, 2, 0] rfl ?_
  exact X0_seekSoonestBehind_b2_ok C hd hH hrec0 FU h
def X0_seekSoonestBehind_K : Nat → Int32 → St → Option St
  | 0, _, _ => none
  | n + 1, l1, σ => X0_seekSoonestBehind (X0_seekSoonestBehind_K n) l1 σ
theorem X0_seekSoonestBehind_K_ok : ∀ n : Nat, (∀  {l1 : Int32} {σ : St} {x : St}, X0_seekSoonestBehind_K n l1 σ = some x → Ct shX (5 + 1 * n) yX0_seekSoonestBehind cX0_seekSoonestBehind 3 none (fun G => [.ref (G.2.1 34), .int l1]) σ (fun G => none) x) := by
  intro n
  induction n with
  | zero => refine fun h => by cases h
  | succ n ih =>
    refine fun h => Ct.mono (show 5 + 1 * n + 1 ≤ 5 + 1 * (n + 1) by omega) (X0_seekSoonestBehind_ok (hr := 5 + 1 * n) (rec := X0_seekSoonestBehind_K n) (by omega) ih (by exact h))
theorem X0_seekSoonestBehind_okK {l1 : Int32} {σ : St} {x : St} (h : X0_seekSoonestBehind (X0_seekSoonestBehind_K FR) l1 σ = some x) : Ct shX 14 yX0_seekSoonestBehind cX0_seekSoonestBehind 3 none (fun G => [.ref (G.2.1 34), .int l1]) σ (fun G => none) x := Ct.mono (show 5 + 1 * FR + 1 ≤ 14 by decide) (X0_seekSoonestBehind_ok (hr := 5 + 1 * FR) (by omega) (X0_seekSoonestBehind_K_ok FR) h)
def X0_seekSoonest (σ : St) : Option St := (X1_begin (up (up (up σ 34 3 (-1)) 34 4 (-1)) 34 5 (-1))).bind (fun x19 => (X0_seekSoonestBehind (X0_seekSoonestBehind_K FR) 0 x19).bind (fun x24 => some x24))
set_option maxRecDepth 100000 in
set_option maxHeartbeats 4000000 in
theorem X0_seekSoonest_ok {σ : St} {x : St} (h : X0_seekSoonest σ = some x) : Ct shX (15) yX0_seekSoonest cX0_seekSoonest 1 none (fun G => [.ref (G.2.1 34)]) σ (fun G => none) x := by
  refine Ct.of mw_X0_seekSoonest.1 (by decide +kernel) (fun G => Nat.le_of_ble_eq_true rfl) (fun G p l e d s m args below meth c A hd C => ?_)
  refine (?_ : Vw shX G p l e d s m args below meth c 1 A σ 0 [(0, .ref (G.2.1 34))] [] (none) x)
  unfold X0_seekSoonest at h
  refine V_aload_n C 0 dX0_seekSoonest_0 rfl rfl ?_
  refine V_iconst C (w := (-1)) dX0_seekSoonest_1 (by decide) ?_
  refine fp0_15 C oX_34 dX0_seekSoonest_2 ?_
  refine V_aload_n C 0 dX0_seekSoonest_5 rfl rfl ?_
  refine V_iconst C (w := (-1)) dX0_seekSoonest_6 (by decide) ?_
  refine fp0_18 C oX_34 dX0_seekSoonest_7 ?_
  refine V_aload_n C 0 dX0_seekSoonest_10 rfl rfl ?_
  refine V_iconst C (w := (-1)) dX0_seekSoonest_11 (by decide) ?_
  refine fp0_21 C oX_34 dX0_seekSoonest_12 ?_
  refine V_aload_n C 0 dX0_seekSoonest_15 rfl rfl ?_
  refine fg0_31 (r := 27) C oX_34 rfl dX0_seekSoonest_16 ?_
  obtain ⟨x19, h19, h⟩ := Option.bind_eq_some_iff.mp h
  refine V_callVv (As := []) C (X1_begin_ok h19) mw_X1_begin.1 mw_X1_begin.2.1 mw_X1_begin.2.2 q0_35 oX_27.1 oX_27.2.1 (by decide) rfl rfl (by omega) rfl rfl rfl (Nat.le_of_ble_eq_true rfl) dX0_seekSoonest_19 ?_
  refine V_aload_n C 0 dX0_seekSoonest_22 rfl rfl ?_
  refine V_iconst C (w := 0) dX0_seekSoonest_23 (by decide) ?_
  obtain ⟨x24, h24, h⟩ := Option.bind_eq_some_iff.mp h
  refine V_callVv (As := [.int 0]) C (X0_seekSoonestBehind_okK h24) mw_X0_seekSoonestBehind.1 mw_X0_seekSoonestBehind.2.1 mw_X0_seekSoonestBehind.2.2 q0_66 oX_34.1 oX_34.2.1 (by decide) rfl rfl (by omega) rfl rfl rfl (Nat.le_of_ble_eq_true rfl) dX0_seekSoonest_24 ?_
  obtain rfl := Option.some.inj h
  exact V_vret C rfl dX0_seekSoonest_27
def X0_warmthByTurns_b103 (rec : Int32 → St → Option (Int32 × St)) (K36 : Int32 → Int32 → Int32 → Int32 → St → Option (Int32 × St)) (l1 : Int32) (l2 : Int32) (l4 : Int32) (l5 : Int32) (σ : St) : Option (Int32 × St) := if l1 = 0 then (K36 l1 l2 l5 (l4 + 1) (up σ 34 6 l4)) else (K36 l1 l2 l5 (l4 + 1) σ)
set_option maxRecDepth 100000 in
set_option maxHeartbeats 4000000 in
theorem X0_warmthByTurns_b103_ok {G : Gx} {p : Program} {l : Launch} {e : Env} {d : Nat} {s : State} {m : MethodId} {args : Array Value} {below : List Frame} {meth : Method} {c : Code} {A : Nat → Prop} {hr : Nat} {rec : Int32 → St → Option (Int32 × St)} {K36 : Int32 → Int32 → Int32 → Int32 → St → Option (Int32 × St)} (C : OK shX G p s m args meth c RX0 cX0_warmthByTurns 6 (some FieldType.int) A) (hd : hr + 1 ≤ d) (hH : 5 ≤ hr) (hrec0 : ∀  {l1 : Int32} {σ : St} {x : (Int32 × St)}, rec l1 σ = some x → Ct shX hr yX0_warmthByTurns cX0_warmthByTurns 6 (some FieldType.int) (fun G => [.ref (G.2.1 34), .int l1]) σ (fun G => some (.int x.1)) x.2) (hK36 : ∀  {l1 : Int32} {l2 : Int32} {l3 : Int32} {l4 : Int32} {σ : St} {x : (Int32 × St)}, K36 l1 l2 l3 l4 σ = some x → Vw shX G p l e d s m args below meth c 6 A σ 36 [(0, .ref (G.2.1 34)), (1, .int l1), (2, .int l2), (3, .int l3), (4, .int l4)] [] (some (.int x.1)) x.2) {l1 : Int32} {l2 : Int32} {l4 : Int32} {l5 : Int32} {σ : St} {x : (Int32 × St)} (h : X0_warmthByTurns_b103 rec K36 l1 l2 l4 l5 σ = some x) : Vw shX G p l e d s m args below meth c 6 A σ 103 [(0, .ref (G.2.1 34)), (1, .int l1), (2, .int l2), (4, .int l4), (5, .int l5)] [] (some (.int x.1)) x.2 := by
  unfold X0_warmthByTurns_b103 at h
  refine V_iload C 4 dX0_warmthByTurns_103 rfl ?_
  refine V_istore_n C (lv' := [(3, .int l5), (0, .ref (G.2.1 34)), (1, .int l1), (2, .int l2), (4, .int l4), (5, .int l5)]) dX0_warmthByTurns_105 rfl (by decide) rfl ?_
  refine V_iload_n C 2 dX0_warmthByTurns_106 rfl rfl ?_
  by_cases c1 : l1 = 0
  · rw [if_pos c1] at h
    refine V_if_neF C 116 dX0_warmthByTurns_107 (by decide) c1 ?_
    refine V_aload_n C 1 dX0_warmthByTurns_110 rfl rfl ?_
    refine V_iload C 4 dX0_warmthByTurns_111 rfl ?_
    refine fp0_24 C oX_34 dX0_warmthByTurns_113 ?_
    refine V_iinc C (w := (l4 + 1)) (lv' := [(4, .int (l4 + 1)), (3, .int l5), (0, .ref (G.2.1 34)), (1, .int l1), (2, .int l2), (5, .int l5)]) 4 dX0_warmthByTurns_116 rfl (congrArg (l4 + ·) (show Int32.ofInt 1 = 1 by decide)) (by decide) rfl ?_
    refine V_goto C 36 dX0_warmthByTurns_119 (by decide) ?_
    refine V_sub (lv' := [(0, .ref (G.2.1 34)), (1, .int l1), (2, .int l2), (3, .int l5), (4, .int (l4 + 1))]) [2, 3, 4, 1, 0] rfl ?_
    exact hK36 h
  · rw [if_neg c1] at h
    refine V_if_neT C 116 dX0_warmthByTurns_107 (by decide) c1 ?_
    refine V_iinc C (w := (l4 + 1)) (lv' := [(4, .int (l4 + 1)), (3, .int l5), (0, .ref (G.2.1 34)), (1, .int l1), (2, .int l2), (5, .int l5)]) 4 dX0_warmthByTurns_116 rfl (congrArg (l4 + ·) (show Int32.ofInt 1 = 1 by decide)) (by decide) rfl ?_
    refine V_goto C 36 dX0_warmthByTurns_119 (by decide) ?_
    refine V_sub (lv' := [(0, .ref (G.2.1 34)), (1, .int l1), (2, .int l2), (3, .int l5), (4, .int (l4 + 1))]) [2, 3, 4, 1, 0] rfl ?_
    exact hK36 h
def X0_warmthByTurns_b36 (rec : Int32 → St → Option (Int32 × St)) : Nat → Int32 → Int32 → Int32 → Int32 → St → Option (Int32 × St)
  | 0, _, _, _, _, _ => none
  | F + 1, l1, l2, l3, l4, σ => if (σ.1 1 5) ≤ l4 then (some (l3, σ)) else ((X1_comeUp l4 σ).bind (fun x54 => if x54.1 = 0 then (X0_warmthByTurns_b36 rec F l1 l2 l3 (l4 + 1) x54.2) else ((rec (l1 + 1) x54.2).bind (fun x67 => (X1_goBack x67.2).bind (fun x76 => if l3 = (-1) then (X0_warmthByTurns_b103 rec (X0_warmthByTurns_b36 rec F) l1 l2 l4 x67.1 x76) else (if l2 = 0 then (if l3 ≤ x67.1 then (X0_warmthByTurns_b36 rec F l1 l2 l3 (l4 + 1) x76) else (X0_warmthByTurns_b103 rec (X0_warmthByTurns_b36 rec F) l1 l2 l4 x67.1 x76)) else (if x67.1 ≤ l3 then (X0_warmthByTurns_b36 rec F l1 l2 l3 (l4 + 1) x76) else (X0_warmthByTurns_b103 rec (X0_warmthByTurns_b36 rec F) l1 l2 l4 x67.1 x76))))))))
set_option maxRecDepth 100000 in
set_option maxHeartbeats 4000000 in
theorem X0_warmthByTurns_b36_ok {G : Gx} {p : Program} {l : Launch} {e : Env} {d : Nat} {s : State} {m : MethodId} {args : Array Value} {below : List Frame} {meth : Method} {c : Code} {A : Nat → Prop} {hr : Nat} {rec : Int32 → St → Option (Int32 × St)} (C : OK shX G p s m args meth c RX0 cX0_warmthByTurns 6 (some FieldType.int) A) (hd : hr + 1 ≤ d) (hH : 5 ≤ hr) (hrec0 : ∀  {l1 : Int32} {σ : St} {x : (Int32 × St)}, rec l1 σ = some x → Ct shX hr yX0_warmthByTurns cX0_warmthByTurns 6 (some FieldType.int) (fun G => [.ref (G.2.1 34), .int l1]) σ (fun G => some (.int x.1)) x.2) : ∀ (F : Nat) {l1 : Int32} {l2 : Int32} {l3 : Int32} {l4 : Int32} {σ : St} {x : (Int32 × St)} (h : X0_warmthByTurns_b36 rec F l1 l2 l3 l4 σ = some x), Vw shX G p l e d s m args below meth c 6 A σ 36 [(0, .ref (G.2.1 34)), (1, .int l1), (2, .int l2), (3, .int l3), (4, .int l4)] [] (some (.int x.1)) x.2 := by
  intro F
  induction F with
  | zero =>
    intro l1 l2 l3 l4 σ x h
    rw [X0_warmthByTurns_b36] at h
    cases h
  | succ F ih =>
    intro l1 l2 l3 l4 σ x h
    rw [X0_warmthByTurns_b36] at h
    refine V_iload C 4 dX0_warmthByTurns_36 rfl ?_
    refine V_aload_n C 0 dX0_warmthByTurns_38 rfl rfl ?_
    refine fg0_27 (r := 1) C oX_34 rfl dX0_warmthByTurns_39 ?_
    refine fg0_46 C oX_1 dX0_warmthByTurns_42 ?_
    by_cases c2 : (σ.1 1 5) ≤ l4
    · rw [if_pos c2] at h
      refine V_icmp_geT C 122 dX0_warmthByTurns_45 (by decide) c2 ?_
      refine V_iload_n C 3 dX0_warmthByTurns_122 rfl rfl ?_
      obtain rfl := Option.some.inj h
      exact V_iret C rfl rfl dX0_warmthByTurns_123
    · rw [if_neg c2] at h
      refine V_icmp_geF C 122 dX0_warmthByTurns_45 (by decide) c2 ?_
      refine V_aload_n C 0 dX0_warmthByTurns_48 rfl rfl ?_
      refine fg0_31 (r := 27) C oX_34 rfl dX0_warmthByTurns_49 ?_
      refine V_iload C 4 dX0_warmthByTurns_52 rfl ?_
      obtain ⟨x54, h54, h⟩ := Option.bind_eq_some_iff.mp h
      refine V_callVi (As := [.int l4]) C (X1_comeUp_ok h54) mw_X1_comeUp.1 mw_X1_comeUp.2.1 mw_X1_comeUp.2.2 q0_60 oX_27.1 oX_27.2.1 (by decide) rfl rfl (by omega) rfl rfl rfl (Nat.le_of_ble_eq_true rfl) dX0_warmthByTurns_54 ?_
      by_cases c3 : x54.1 = 0
      · rw [if_pos c3] at h
        refine V_if_neF C 63 dX0_warmthByTurns_57 (by decide) c3 ?_
        refine V_goto C 116 dX0_warmthByTurns_60 (by decide) ?_
        refine V_iinc C (w := (l4 + 1)) (lv' := [(4, .int (l4 + 1)), (0, .ref (G.2.1 34)), (1, .int l1), (2, .int l2), (3, .int l3)]) 4 dX0_warmthByTurns_116 rfl (congrArg (l4 + ·) (show Int32.ofInt 1 = 1 by decide)) (by decide) rfl ?_
        refine V_goto C 36 dX0_warmthByTurns_119 (by decide) ?_
        refine V_sub (lv' := [(0, .ref (G.2.1 34)), (1, .int l1), (2, .int l2), (3, .int l3), (4, .int (l4 + 1))]) [1, 2, 3, 4, 0] rfl ?_
        exact ih h
      · rw [if_neg c3] at h
        refine V_if_neT C 63 dX0_warmthByTurns_57 (by decide) c3 ?_
        refine V_aload_n C 0 dX0_warmthByTurns_63 rfl rfl ?_
        refine V_iload_n C 1 dX0_warmthByTurns_64 rfl rfl ?_
        refine V_iconst C (w := 1) dX0_warmthByTurns_65 (by decide) ?_
        refine V_iadd C dX0_warmthByTurns_66 ?_
        obtain ⟨x67, h67, h⟩ := Option.bind_eq_some_iff.mp h
        refine V_callVi (As := [.int (l1 + 1)]) C (hrec0 h67) mw_X0_warmthByTurns.1 mw_X0_warmthByTurns.2.1 mw_X0_warmthByTurns.2.2 q0_79 oX_34.1 oX_34.2.1 (by decide) rfl rfl (by omega) rfl rfl rfl (Nat.le_of_ble_eq_true rfl) dX0_warmthByTurns_67 ?_
        refine V_istore C (lv' := [(5, .int x67.1), (0, .ref (G.2.1 34)), (1, .int l1), (2, .int l2), (3, .int l3), (4, .int l4)]) dX0_warmthByTurns_70 (by decide) rfl ?_
        refine V_aload_n C 1 dX0_warmthByTurns_72 rfl rfl ?_
        refine fg0_31 (r := 27) C oX_34 rfl dX0_warmthByTurns_73 ?_
        obtain ⟨x76, h76, h⟩ := Option.bind_eq_some_iff.mp h
        refine V_callVv (As := []) C (X1_goBack_ok h76) mw_X1_goBack.1 mw_X1_goBack.2.1 mw_X1_goBack.2.2 q0_63 oX_27.1 oX_27.2.1 (by decide) rfl rfl (by omega) rfl rfl rfl (Nat.le_of_ble_eq_true rfl) dX0_warmthByTurns_76 ?_
        refine V_iload_n C 4 dX0_warmthByTurns_79 rfl rfl ?_
        refine V_iconst C (w := (-1)) dX0_warmthByTurns_80 (by decide) ?_
        by_cases c4 : l3 = (-1)
        · rw [if_pos c4] at h
          refine V_icmp_eqT C 103 dX0_warmthByTurns_81 (by decide) c4 ?_
          refine V_sub (lv' := [(0, .ref (G.2.1 34)), (1, .int l1), (2, .int l2), (4, .int l4), (5, .int x67.1)]) [1, 2, 3, 5, 0] rfl ?_
          exact X0_warmthByTurns_b103_ok C hd hH hrec0 (fun h => ih h) h
        · rw [if_neg c4] at h
          refine V_icmp_eqF C 103 dX0_warmthByTurns_81 (by decide) c4 ?_
          refine V_iload_n C 3 dX0_warmthByTurns_84 rfl rfl ?_
          by_cases c5 : l2 = 0
          · rw [if_pos c5] at h
            refine V_if_eqT C 97 dX0_warmthByTurns_85 (by decide) c5 ?_
            refine V_iload C 0 dX0_warmthByTurns_97 rfl ?_
            refine V_iload_n C 4 dX0_warmthByTurns_99 rfl rfl ?_
            by_cases c6 : l3 ≤ x67.1
            · rw [if_pos c6] at h
              refine V_icmp_geT C 116 dX0_warmthByTurns_100 (by decide) c6 ?_
              refine V_iinc C (w := (l4 + 1)) (lv' := [(4, .int (l4 + 1)), (5, .int x67.1), (0, .ref (G.2.1 34)), (1, .int l1), (2, .int l2), (3, .int l3)]) 5 dX0_warmthByTurns_116 rfl (congrArg (l4 + ·) (show Int32.ofInt 1 = 1 by decide)) (by decide) rfl ?_
              refine V_goto C 36 dX0_warmthByTurns_119 (by decide) ?_
              refine V_sub (lv' := [(0, .ref (G.2.1 34)), (1, .int l1), (2, .int l2), (3, .int l3), (4, .int (l4 + 1))]) [2, 3, 4, 5, 0] rfl ?_
              exact ih h
            · rw [if_neg c6] at h
              refine V_icmp_geF C 116 dX0_warmthByTurns_100 (by decide) c6 ?_
              refine V_sub (lv' := [(0, .ref (G.2.1 34)), (1, .int l1), (2, .int l2), (4, .int l4), (5, .int x67.1)]) [1, 2, 3, 5, 0] rfl ?_
              exact X0_warmthByTurns_b103_ok C hd hH hrec0 (fun h => ih h) h
          · rw [if_neg c5] at h
            refine V_if_eqF C 97 dX0_warmthByTurns_85 (by decide) c5 ?_
            refine V_iload C 0 dX0_warmthByTurns_88 rfl ?_
            refine V_iload_n C 4 dX0_warmthByTurns_90 rfl rfl ?_
            by_cases c7 : x67.1 ≤ l3
            · rw [if_pos c7] at h
              refine V_icmp_leT C 116 dX0_warmthByTurns_91 (by decide) c7 ?_
              refine V_iinc C (w := (l4 + 1)) (lv' := [(4, .int (l4 + 1)), (5, .int x67.1), (0, .ref (G.2.1 34)), (1, .int l1), (2, .int l2), (3, .int l3)]) 5 dX0_warmthByTurns_116 rfl (congrArg (l4 + ·) (show Int32.ofInt 1 = 1 by decide)) (by decide) rfl ?_
              refine V_goto C 36 dX0_warmthByTurns_119 (by decide) ?_
              refine V_sub (lv' := [(0, .ref (G.2.1 34)), (1, .int l1), (2, .int l2), (3, .int l3), (4, .int (l4 + 1))]) [2, 3, 4, 5, 0] rfl ?_
              exact ih h
            · rw [if_neg c7] at h
              refine V_icmp_leF C 116 dX0_warmthByTurns_91 (by decide) c7 ?_
              refine V_goto C 103 dX0_warmthByTurns_94 (by decide) ?_
              refine V_sub (lv' := [(0, .ref (G.2.1 34)), (1, .int l1), (2, .int l2), (4, .int l4), (5, .int x67.1)]) [1, 2, 3, 5, 0] rfl ?_
              exact X0_warmthByTurns_b103_ok C hd hH hrec0 (fun h => ih h) h
def X0_warmthByTurns_b30 (rec : Int32 → St → Option (Int32 × St)) (l1 : Int32) (s0 : Int32) (σ : St) : Option (Int32 × St) := X0_warmthByTurns_b36 rec FU l1 s0 (-1) 0 σ
set_option maxRecDepth 100000 in
set_option maxHeartbeats 4000000 in
theorem X0_warmthByTurns_b30_ok {G : Gx} {p : Program} {l : Launch} {e : Env} {d : Nat} {s : State} {m : MethodId} {args : Array Value} {below : List Frame} {meth : Method} {c : Code} {A : Nat → Prop} {hr : Nat} {rec : Int32 → St → Option (Int32 × St)} (C : OK shX G p s m args meth c RX0 cX0_warmthByTurns 6 (some FieldType.int) A) (hd : hr + 1 ≤ d) (hH : 5 ≤ hr) (hrec0 : ∀  {l1 : Int32} {σ : St} {x : (Int32 × St)}, rec l1 σ = some x → Ct shX hr yX0_warmthByTurns cX0_warmthByTurns 6 (some FieldType.int) (fun G => [.ref (G.2.1 34), .int l1]) σ (fun G => some (.int x.1)) x.2) {l1 : Int32} {s0 : Int32} {σ : St} {x : (Int32 × St)} (h : X0_warmthByTurns_b30 rec l1 s0 σ = some x) : Vw shX G p l e d s m args below meth c 6 A σ 30 [(0, .ref (G.2.1 34)), (1, .int l1)] [.int s0] (some (.int x.1)) x.2 := by
  unfold X0_warmthByTurns_b30 at h
  refine V_istore_n C (lv' := [(2, .int s0), (0, .ref (G.2.1 34)), (1, .int l1)]) dX0_warmthByTurns_30 rfl (by decide) rfl ?_
  refine V_iconst C (w := (-1)) dX0_warmthByTurns_31 (by decide) ?_
  refine V_istore_n C (lv' := [(3, .int (-1)), (2, .int s0), (0, .ref (G.2.1 34)), (1, .int l1)]) dX0_warmthByTurns_32 rfl (by decide) rfl ?_
  refine V_iconst C (w := 0) dX0_warmthByTurns_33 (by decide) ?_
  refine V_istore C (lv' := [(4, .int 0), (3, .int (-1)), (2, .int s0), (0, .ref (G.2.1 34)), (1, .int l1)]) dX0_warmthByTurns_34 (by decide) rfl ?_
  refine V_sub (lv' := [(0, .ref (G.2.1 34)), (1, .int l1), (2, .int s0), (3, .int (-1)), (4, .int 0)]) [3, 4, 2, 1, 0] rfl ?_
  exact X0_warmthByTurns_b36_ok C hd hH hrec0 FU h
def X0_warmthByTurns (rec : Int32 → St → Option (Int32 × St)) (l1 : Int32) (σ : St) : Option (Int32 × St) := if l1 < (σ.1 1 5) then (if (l1 - l1 / 2 * 2) = 0 then (X0_warmthByTurns_b30 rec l1 1 σ) else (X0_warmthByTurns_b30 rec l1 0 σ)) else ((X1_warmthNow σ).bind (fun x15 => some (x15, σ)))
set_option maxRecDepth 100000 in
set_option maxHeartbeats 4000000 in
theorem X0_warmthByTurns_ok {hr : Nat} {rec : Int32 → St → Option (Int32 × St)} (hH : 5 ≤ hr) (hrec0 : ∀  {l1 : Int32} {σ : St} {x : (Int32 × St)}, rec l1 σ = some x → Ct shX hr yX0_warmthByTurns cX0_warmthByTurns 6 (some FieldType.int) (fun G => [.ref (G.2.1 34), .int l1]) σ (fun G => some (.int x.1)) x.2) {l1 : Int32} {σ : St} {x : (Int32 × St)} (h : X0_warmthByTurns rec l1 σ = some x) : Ct shX (hr + 1) yX0_warmthByTurns cX0_warmthByTurns 6 (some FieldType.int) (fun G => [.ref (G.2.1 34), .int l1]) σ (fun G => some (.int x.1)) x.2 := by
  refine Ct.of mw_X0_warmthByTurns.1 (by decide +kernel) (fun G => Nat.le_of_ble_eq_true rfl) (fun G p l e d s m args below meth c A hd C => ?_)
  refine (?_ : Vw shX G p l e d s m args below meth c 6 A σ 0 [(0, .ref (G.2.1 34)), (1, .int l1)] [] (some (.int x.1)) x.2)
  unfold X0_warmthByTurns at h
  refine V_iload_n C 1 dX0_warmthByTurns_0 rfl rfl ?_
  refine V_aload_n C 0 dX0_warmthByTurns_1 rfl rfl ?_
  refine fg0_27 (r := 1) C oX_34 rfl dX0_warmthByTurns_2 ?_
  refine fg0_46 C oX_1 dX0_warmthByTurns_5 ?_
  by_cases c8 : l1 < (σ.1 1 5)
  · rw [if_pos c8] at h
    refine V_icmp_ltT C 19 dX0_warmthByTurns_8 (by decide) c8 ?_
    refine V_iload_n C 1 dX0_warmthByTurns_19 rfl rfl ?_
    refine V_iconst C (w := 2) dX0_warmthByTurns_20 (by decide) ?_
    refine V_irem C dX0_warmthByTurns_21 (by decide) ?_
    by_cases c9 : (l1 - l1 / 2 * 2) = 0
    · rw [if_pos c9] at h
      refine V_if_neF C 29 dX0_warmthByTurns_22 (by decide) c9 ?_
      refine V_iconst C (w := 1) dX0_warmthByTurns_25 (by decide) ?_
      refine V_goto C 30 dX0_warmthByTurns_26 (by decide) ?_
      exact X0_warmthByTurns_b30_ok C hd hH hrec0 h
    · rw [if_neg c9] at h
      refine V_if_neT C 29 dX0_warmthByTurns_22 (by decide) c9 ?_
      refine V_iconst C (w := 0) dX0_warmthByTurns_29 (by decide) ?_
      exact X0_warmthByTurns_b30_ok C hd hH hrec0 h
  · rw [if_neg c8] at h
    refine V_icmp_ltF C 19 dX0_warmthByTurns_8 (by decide) c8 ?_
    refine V_aload_n C 0 dX0_warmthByTurns_11 rfl rfl ?_
    refine fg0_31 (r := 27) C oX_34 rfl dX0_warmthByTurns_12 ?_
    obtain ⟨x15, h15, h⟩ := Option.bind_eq_some_iff.mp h
    refine V_callVi (As := []) C (X1_warmthNow_ok h15) mw_X1_warmthNow.1 mw_X1_warmthNow.2.1 mw_X1_warmthNow.2.2 q0_53 oX_27.1 oX_27.2.1 (by decide) rfl rfl (by omega) rfl rfl rfl (Nat.le_of_ble_eq_true rfl) dX0_warmthByTurns_15 ?_
    obtain rfl := Option.some.inj h
    exact V_iret C rfl rfl dX0_warmthByTurns_18
def X0_warmthByTurns_K : Nat → Int32 → St → Option (Int32 × St)
  | 0, _, _ => none
  | n + 1, l1, σ => X0_warmthByTurns (X0_warmthByTurns_K n) l1 σ
theorem X0_warmthByTurns_K_ok : ∀ n : Nat, (∀  {l1 : Int32} {σ : St} {x : (Int32 × St)}, X0_warmthByTurns_K n l1 σ = some x → Ct shX (5 + 1 * n) yX0_warmthByTurns cX0_warmthByTurns 6 (some FieldType.int) (fun G => [.ref (G.2.1 34), .int l1]) σ (fun G => some (.int x.1)) x.2) := by
  intro n
  induction n with
  | zero => refine fun h => by cases h
  | succ n ih =>
    refine fun h => Ct.mono (show 5 + 1 * n + 1 ≤ 5 + 1 * (n + 1) by omega) (X0_warmthByTurns_ok (hr := 5 + 1 * n) (rec := X0_warmthByTurns_K n) (by omega) ih (by exact h))
theorem X0_warmthByTurns_okK {l1 : Int32} {σ : St} {x : (Int32 × St)} (h : X0_warmthByTurns (X0_warmthByTurns_K FR) l1 σ = some x) : Ct shX 14 yX0_warmthByTurns cX0_warmthByTurns 6 (some FieldType.int) (fun G => [.ref (G.2.1 34), .int l1]) σ (fun G => some (.int x.1)) x.2 := Ct.mono (show 5 + 1 * FR + 1 ≤ 14 by decide) (X0_warmthByTurns_ok (hr := 5 + 1 * FR) (by omega) (X0_warmthByTurns_K_ok FR) h)
def X0_seekByTurns (σ : St) : Option St := (X1_begin (up σ 34 6 (-1))).bind (fun x9 => (X0_warmthByTurns (X0_warmthByTurns_K FR) 0 x9).bind (fun x15 => some (up x15.2 34 2 x15.1)))
set_option maxRecDepth 100000 in
set_option maxHeartbeats 4000000 in
theorem X0_seekByTurns_ok {σ : St} {x : St} (h : X0_seekByTurns σ = some x) : Ct shX (15) yX0_seekByTurns cX0_seekByTurns 1 none (fun G => [.ref (G.2.1 34)]) σ (fun G => none) x := by
  refine Ct.of mw_X0_seekByTurns.1 (by decide +kernel) (fun G => Nat.le_of_ble_eq_true rfl) (fun G p l e d s m args below meth c A hd C => ?_)
  refine (?_ : Vw shX G p l e d s m args below meth c 1 A σ 0 [(0, .ref (G.2.1 34))] [] (none) x)
  unfold X0_seekByTurns at h
  refine V_aload_n C 0 dX0_seekByTurns_0 rfl rfl ?_
  refine V_iconst C (w := (-1)) dX0_seekByTurns_1 (by decide) ?_
  refine fp0_24 C oX_34 dX0_seekByTurns_2 ?_
  refine V_aload_n C 0 dX0_seekByTurns_5 rfl rfl ?_
  refine fg0_31 (r := 27) C oX_34 rfl dX0_seekByTurns_6 ?_
  obtain ⟨x9, h9, h⟩ := Option.bind_eq_some_iff.mp h
  refine V_callVv (As := []) C (X1_begin_ok h9) mw_X1_begin.1 mw_X1_begin.2.1 mw_X1_begin.2.2 q0_35 oX_27.1 oX_27.2.1 (by decide) rfl rfl (by omega) rfl rfl rfl (Nat.le_of_ble_eq_true rfl) dX0_seekByTurns_9 ?_
  refine V_aload_n C 0 dX0_seekByTurns_12 rfl rfl ?_
  refine V_aload_n C 0 dX0_seekByTurns_13 rfl rfl ?_
  refine V_iconst C (w := 0) dX0_seekByTurns_14 (by decide) ?_
  obtain ⟨x15, h15, h⟩ := Option.bind_eq_some_iff.mp h
  refine V_callVi (As := [.int 0]) C (X0_warmthByTurns_okK h15) mw_X0_warmthByTurns.1 mw_X0_warmthByTurns.2.1 mw_X0_warmthByTurns.2.2 q0_79 oX_34.1 oX_34.2.1 (by decide) rfl rfl (by omega) rfl rfl rfl (Nat.le_of_ble_eq_true rfl) dX0_seekByTurns_15 ?_
  refine fp0_9 C oX_34 dX0_seekByTurns_18 ?_
  obtain rfl := Option.some.inj h
  exact V_vret C rfl dX0_seekByTurns_21
def X6_item (l0 : Nat) (l1 : Int32) (σ : St) : Option Int32 := if l1 < 0 then (some (-1)) else (if isO shX l0 6 3 then (if (σ.1 l0 2) ≤ l1 then (some (-1)) else (if isA shX (rfX l0 0) 20 then (if (Int32.ofNat (lnX (rfX l0 0))) ≤ l1 then (some (-1)) else (if ob l1 (lnX (rfX l0 0)) then none else (some (σ.1 (rfX l0 0) (l1).toNatClampNeg)))) else none)) else none)
set_option maxRecDepth 100000 in
set_option maxHeartbeats 4000000 in
theorem X6_item_ok {l0 : Nat} {l1 : Int32} {σ : St} {x : Int32} (h : X6_item l0 l1 σ = some x) : Ct shX (1) yX6_item cX6_item 2 (some FieldType.int) (fun G => [.ref (G.2.1 l0), .int l1]) σ (fun G => some (.int x)) σ := by
  refine Ct.of mw_X6_item.1 (by decide +kernel) (fun G => Nat.le_of_ble_eq_true rfl) (fun G p l e d s m args below meth c A hd C => ?_)
  refine (?_ : Vw shX G p l e d s m args below meth c 2 A σ 0 [(0, .ref (G.2.1 l0)), (1, .int l1)] [] (some (.int x)) σ)
  unfold X6_item at h
  refine V_iload_n C 1 dX6_item_0 rfl rfl ?_
  by_cases c1 : l1 < 0
  · rw [if_pos c1] at h
    refine V_if_ltT C 30 dX6_item_1 (by decide) c1 ?_
    refine V_iconst C (w := (-1)) dX6_item_30 (by decide) ?_
    obtain rfl := Option.some.inj h
    exact V_iret C rfl rfl dX6_item_31
  · rw [if_neg c1] at h
    refine V_if_ltF C 30 dX6_item_1 (by decide) c1 ?_
    refine V_iload_n C 1 dX6_item_4 rfl rfl ?_
    refine V_aload_n C 0 dX6_item_5 rfl rfl ?_
    have g2 : isO shX l0 6 3 := Decidable.byContradiction (fun g9 => by rw [if_neg g9] at h; cases h)
    rw [if_pos g2] at h
    refine fg6_19 C g2 dX6_item_6 ?_
    by_cases c3 : (σ.1 l0 2) ≤ l1
    · rw [if_pos c3] at h
      refine V_icmp_geT C 30 dX6_item_9 (by decide) c3 ?_
      refine V_iconst C (w := (-1)) dX6_item_30 (by decide) ?_
      obtain rfl := Option.some.inj h
      exact V_iret C rfl rfl dX6_item_31
    · rw [if_neg c3] at h
      refine V_icmp_geF C 30 dX6_item_9 (by decide) c3 ?_
      refine V_iload_n C 1 dX6_item_12 rfl rfl ?_
      refine V_aload_n C 0 dX6_item_13 rfl rfl ?_
      refine fg6_9 (r := (rfX l0 0)) C g2 rfl dX6_item_14 ?_
      have g4 : isA shX (rfX l0 0) 20 := Decidable.byContradiction (fun g9 => by rw [if_neg g9] at h; cases h)
      rw [if_pos g4] at h
      refine V_alenI C g4.1 g4.2 rfl dX6_item_17 ?_
      by_cases c5 : (Int32.ofNat (lnX (rfX l0 0))) ≤ l1
      · rw [if_pos c5] at h
        refine V_icmp_geT C 30 dX6_item_18 (by decide) c5 ?_
        refine V_iconst C (w := (-1)) dX6_item_30 (by decide) ?_
        obtain rfl := Option.some.inj h
        exact V_iret C rfl rfl dX6_item_31
      · rw [if_neg c5] at h
        refine V_icmp_geF C 30 dX6_item_18 (by decide) c5 ?_
        refine V_aload_n C 0 dX6_item_21 rfl rfl ?_
        refine fg6_9 (r := (rfX l0 0)) C g2 rfl dX6_item_22 ?_
        refine V_iload_n C 1 dX6_item_25 rfl rfl ?_
        have g6 : ¬ (ob l1 (lnX (rfX l0 0))) := fun g9 => by rw [if_pos g9] at h; cases h
        rw [if_neg g6] at h
        refine V_ialdA C g4 g6 dX6_item_26 ?_
        refine V_goto C 31 dX6_item_27 (by decide) ?_
        obtain rfl := Option.some.inj h
        exact V_iret C rfl rfl dX6_item_31
def X1_comeBy_b6 : Nat → Nat → Int32 → St → Option (Int32 × St)
  | 0, _, _, _ => none
  | F + 1, l1, l2, σ => if isO shX l1 6 3 then (if (σ.1 l1 2) ≤ l2 then (some (1, σ)) else ((X6_item l1 l2 σ).bind (fun x17 => (X1_comeUp x17 σ).bind (fun x20 => if x20.1 = 0 then (some (0, x20.2)) else (X1_comeBy_b6 F l1 (l2 + 1) x20.2))))) else none
set_option maxRecDepth 100000 in
set_option maxHeartbeats 4000000 in
theorem X1_comeBy_b6_ok {G : Gx} {p : Program} {l : Launch} {e : Env} {d : Nat} {s : State} {m : MethodId} {args : Array Value} {below : List Frame} {meth : Method} {c : Code} {A : Nat → Prop} (C : OK shX G p s m args meth c RX1 cX1_comeBy 3 (some FieldType.boolean) A) (hd : 5 ≤ d) : ∀ (F : Nat) {l1 : Nat} {l2 : Int32} {σ : St} {x : (Int32 × St)} (h : X1_comeBy_b6 F l1 l2 σ = some x), Vw shX G p l e d s m args below meth c 3 A σ 6 [(0, .ref (G.2.1 27)), (1, .ref (G.2.1 l1)), (2, .int l2)] [] (some (.int x.1)) x.2 := by
  intro F
  induction F with
  | zero =>
    intro l1 l2 σ x h
    rw [X1_comeBy_b6] at h
    cases h
  | succ F ih =>
    intro l1 l2 σ x h
    rw [X1_comeBy_b6] at h
    refine V_iload_n C 2 dX1_comeBy_6 rfl rfl ?_
    refine V_aload_n C 1 dX1_comeBy_7 rfl rfl ?_
    have g1 : isO shX l1 6 3 := Decidable.byContradiction (fun g9 => by rw [if_neg g9] at h; cases h)
    rw [if_pos g1] at h
    refine fg1_95 C g1 dX1_comeBy_8 ?_
    by_cases c2 : (σ.1 l1 2) ≤ l2
    · rw [if_pos c2] at h
      refine V_icmp_geT C 34 dX1_comeBy_11 (by decide) c2 ?_
      refine V_iconst C (w := 1) dX1_comeBy_34 (by decide) ?_
      obtain rfl := Option.some.inj h
      exact V_iret C rfl (nz (Or.inr rfl)) dX1_comeBy_35
    · rw [if_neg c2] at h
      refine V_icmp_geF C 34 dX1_comeBy_11 (by decide) c2 ?_
      refine V_aload_n C 0 dX1_comeBy_14 rfl rfl ?_
      refine V_aload_n C 1 dX1_comeBy_15 rfl rfl ?_
      refine V_iload_n C 2 dX1_comeBy_16 rfl rfl ?_
      obtain ⟨x17, h17, h⟩ := Option.bind_eq_some_iff.mp h
      refine V_callVi (As := [.int l2]) C (X6_item_ok h17) mw_X6_item.1 mw_X6_item.2.1 mw_X6_item.2.2 q1_100 g1.1 g1.2.1 (by decide) rfl rfl (by omega) rfl rfl rfl (Nat.le_of_ble_eq_true rfl) dX1_comeBy_17 ?_
      obtain ⟨x20, h20, h⟩ := Option.bind_eq_some_iff.mp h
      refine V_callVi (As := [.int x17]) C (X1_comeUp_ok h20) mw_X1_comeUp.1 mw_X1_comeUp.2.1 mw_X1_comeUp.2.2 q1_104 oX_27.1 oX_27.2.1 (by decide) rfl rfl (by omega) rfl rfl rfl (Nat.le_of_ble_eq_true rfl) dX1_comeBy_20 ?_
      by_cases c3 : x20.1 = 0
      · rw [if_pos c3] at h
        refine V_if_neF C 28 dX1_comeBy_23 (by decide) c3 ?_
        refine V_iconst C (w := 0) dX1_comeBy_26 (by decide) ?_
        obtain rfl := Option.some.inj h
        exact V_iret C rfl (nz (Or.inl rfl)) dX1_comeBy_27
      · rw [if_neg c3] at h
        refine V_if_neT C 28 dX1_comeBy_23 (by decide) c3 ?_
        refine V_iinc C (w := (l2 + 1)) (lv' := [(2, .int (l2 + 1)), (0, .ref (G.2.1 27)), (1, .ref (G.2.1 l1))]) 2 dX1_comeBy_28 rfl (congrArg (l2 + ·) (show Int32.ofInt 1 = 1 by decide)) (by decide) rfl ?_
        refine V_goto C 6 dX1_comeBy_31 (by decide) ?_
        refine V_sub (lv' := [(0, .ref (G.2.1 27)), (1, .ref (G.2.1 l1)), (2, .int (l2 + 1))]) [1, 2, 0] rfl ?_
        exact ih h
def X1_comeBy (l1 : Nat) (σ : St) : Option (Int32 × St) := (X1_begin σ).bind (fun x1 => X1_comeBy_b6 FU l1 0 x1)
set_option maxRecDepth 100000 in
set_option maxHeartbeats 4000000 in
theorem X1_comeBy_ok {l1 : Nat} {σ : St} {x : (Int32 × St)} (h : X1_comeBy l1 σ = some x) : Ct shX (5) yX1_comeBy cX1_comeBy 3 (some FieldType.boolean) (fun G => [.ref (G.2.1 27), .ref (G.2.1 l1)]) σ (fun G => some (.int x.1)) x.2 := by
  refine Ct.of mw_X1_comeBy.1 (by decide +kernel) (fun G => Nat.le_of_ble_eq_true rfl) (fun G p l e d s m args below meth c A hd C => ?_)
  refine (?_ : Vw shX G p l e d s m args below meth c 3 A σ 0 [(0, .ref (G.2.1 27)), (1, .ref (G.2.1 l1))] [] (some (.int x.1)) x.2)
  unfold X1_comeBy at h
  refine V_aload_n C 0 dX1_comeBy_0 rfl rfl ?_
  obtain ⟨x1, h1, h⟩ := Option.bind_eq_some_iff.mp h
  refine V_callVv (As := []) C (X1_begin_ok h1) mw_X1_begin.1 mw_X1_begin.2.1 mw_X1_begin.2.2 q1_92 oX_27.1 oX_27.2.1 (by decide) rfl rfl (by omega) rfl rfl rfl (Nat.le_of_ble_eq_true rfl) dX1_comeBy_1 ?_
  refine V_iconst C (w := 0) dX1_comeBy_4 (by decide) ?_
  refine V_istore_n C (lv' := [(2, .int 0), (0, .ref (G.2.1 27)), (1, .ref (G.2.1 l1))]) dX1_comeBy_5 rfl (by decide) rfl ?_
  refine V_sub (lv' := [(0, .ref (G.2.1 27)), (1, .ref (G.2.1 l1)), (2, .int 0)]) [1, 2, 0] rfl ?_
  exact X1_comeBy_b6_ok C hd FU h
def X1_comeByNumber_b6 : Nat → Int32 → St → Option St
  | 0, _, _ => none
  | F + 1, l1, σ => if (σ.1 1 5) ≤ l1 then (some σ) else ((X1_comeUp l1 σ).bind (fun x19 => X1_comeByNumber_b6 F (l1 + 1) x19.2))
set_option maxRecDepth 100000 in
set_option maxHeartbeats 4000000 in
theorem X1_comeByNumber_b6_ok {G : Gx} {p : Program} {l : Launch} {e : Env} {d : Nat} {s : State} {m : MethodId} {args : Array Value} {below : List Frame} {meth : Method} {c : Code} {A : Nat → Prop} (C : OK shX G p s m args meth c RX1 cX1_comeByNumber 2 none A) (hd : 5 ≤ d) : ∀ (F : Nat) {l1 : Int32} {σ : St} {x : St} (h : X1_comeByNumber_b6 F l1 σ = some x), Vw shX G p l e d s m args below meth c 2 A σ 6 [(0, .ref (G.2.1 27)), (1, .int l1)] [] (none) x := by
  intro F
  induction F with
  | zero =>
    intro l1 σ x h
    rw [X1_comeByNumber_b6] at h
    cases h
  | succ F ih =>
    intro l1 σ x h
    rw [X1_comeByNumber_b6] at h
    refine V_iload_n C 1 dX1_comeByNumber_6 rfl rfl ?_
    refine V_aload_n C 0 dX1_comeByNumber_7 rfl rfl ?_
    refine fg1_42 (r := 1) C oX_27 rfl dX1_comeByNumber_8 ?_
    refine fg1_107 C oX_1 dX1_comeByNumber_11 ?_
    by_cases c1 : (σ.1 1 5) ≤ l1
    · rw [if_pos c1] at h
      refine V_icmp_geT C 29 dX1_comeByNumber_14 (by decide) c1 ?_
      obtain rfl := Option.some.inj h
      exact V_vret C rfl dX1_comeByNumber_29
    · rw [if_neg c1] at h
      refine V_icmp_geF C 29 dX1_comeByNumber_14 (by decide) c1 ?_
      refine V_aload_n C 0 dX1_comeByNumber_17 rfl rfl ?_
      refine V_iload_n C 1 dX1_comeByNumber_18 rfl rfl ?_
      obtain ⟨x19, h19, h⟩ := Option.bind_eq_some_iff.mp h
      refine V_callVi (As := [.int l1]) C (X1_comeUp_ok h19) mw_X1_comeUp.1 mw_X1_comeUp.2.1 mw_X1_comeUp.2.2 q1_104 oX_27.1 oX_27.2.1 (by decide) rfl rfl (by omega) rfl rfl rfl (Nat.le_of_ble_eq_true rfl) dX1_comeByNumber_19 ?_
      refine V_pop C dX1_comeByNumber_22 rfl ?_
      refine V_iinc C (w := (l1 + 1)) (lv' := [(1, .int (l1 + 1)), (0, .ref (G.2.1 27))]) 1 dX1_comeByNumber_23 rfl (congrArg (l1 + ·) (show Int32.ofInt 1 = 1 by decide)) (by decide) rfl ?_
      refine V_goto C 6 dX1_comeByNumber_26 (by decide) ?_
      refine V_sub (lv' := [(0, .ref (G.2.1 27)), (1, .int (l1 + 1))]) [1, 0] rfl ?_
      exact ih h
def X1_comeByNumber (σ : St) : Option St := (X1_begin σ).bind (fun x1 => X1_comeByNumber_b6 FU 0 x1)
set_option maxRecDepth 100000 in
set_option maxHeartbeats 4000000 in
theorem X1_comeByNumber_ok {σ : St} {x : St} (h : X1_comeByNumber σ = some x) : Ct shX (5) yX1_comeByNumber cX1_comeByNumber 2 none (fun G => [.ref (G.2.1 27)]) σ (fun G => none) x := by
  refine Ct.of mw_X1_comeByNumber.1 (by decide +kernel) (fun G => Nat.le_of_ble_eq_true rfl) (fun G p l e d s m args below meth c A hd C => ?_)
  refine (?_ : Vw shX G p l e d s m args below meth c 2 A σ 0 [(0, .ref (G.2.1 27))] [] (none) x)
  unfold X1_comeByNumber at h
  refine V_aload_n C 0 dX1_comeByNumber_0 rfl rfl ?_
  obtain ⟨x1, h1, h⟩ := Option.bind_eq_some_iff.mp h
  refine V_callVv (As := []) C (X1_begin_ok h1) mw_X1_begin.1 mw_X1_begin.2.1 mw_X1_begin.2.2 q1_92 oX_27.1 oX_27.2.1 (by decide) rfl rfl (by omega) rfl rfl rfl (Nat.le_of_ble_eq_true rfl) dX1_comeByNumber_1 ?_
  refine V_iconst C (w := 0) dX1_comeByNumber_4 (by decide) ?_
  refine V_istore_n C (lv' := [(1, .int 0), (0, .ref (G.2.1 27))]) dX1_comeByNumber_5 rfl (by decide) rfl ?_
  refine V_sub (lv' := [(0, .ref (G.2.1 27)), (1, .int 0)]) [1, 0] rfl ?_
  exact X1_comeByNumber_b6_ok C hd FU h
def X1_guestAt (l1 : Int32) (σ : St) : Option Int32 := if l1 < 0 then (some (-1)) else (if (σ.1 27 8) ≤ l1 then (some (-1)) else (if 5 ≤ l1 then (some (-1)) else (if ob l1 5 then none else (some (σ.1 29 (l1).toNatClampNeg)))))
set_option maxRecDepth 100000 in
set_option maxHeartbeats 4000000 in
theorem X1_guestAt_ok {l1 : Int32} {σ : St} {x : Int32} (h : X1_guestAt l1 σ = some x) : Ct shX (1) yX1_guestAt cX1_guestAt 2 (some FieldType.int) (fun G => [.ref (G.2.1 27), .int l1]) σ (fun G => some (.int x)) σ := by
  refine Ct.of mw_X1_guestAt.1 (by decide +kernel) (fun G => Nat.le_of_ble_eq_true rfl) (fun G p l e d s m args below meth c A hd C => ?_)
  refine (?_ : Vw shX G p l e d s m args below meth c 2 A σ 0 [(0, .ref (G.2.1 27)), (1, .int l1)] [] (some (.int x)) σ)
  unfold X1_guestAt at h
  refine V_iload_n C 1 dX1_guestAt_0 rfl rfl ?_
  by_cases c1 : l1 < 0
  · rw [if_pos c1] at h
    refine V_if_ltT C 30 dX1_guestAt_1 (by decide) c1 ?_
    refine V_iconst C (w := (-1)) dX1_guestAt_30 (by decide) ?_
    obtain rfl := Option.some.inj h
    exact V_iret C rfl rfl dX1_guestAt_31
  · rw [if_neg c1] at h
    refine V_if_ltF C 30 dX1_guestAt_1 (by decide) c1 ?_
    refine V_iload_n C 1 dX1_guestAt_4 rfl rfl ?_
    refine V_aload_n C 0 dX1_guestAt_5 rfl rfl ?_
    refine fg1_35 C oX_27 dX1_guestAt_6 ?_
    by_cases c2 : (σ.1 27 8) ≤ l1
    · rw [if_pos c2] at h
      refine V_icmp_geT C 30 dX1_guestAt_9 (by decide) c2 ?_
      refine V_iconst C (w := (-1)) dX1_guestAt_30 (by decide) ?_
      obtain rfl := Option.some.inj h
      exact V_iret C rfl rfl dX1_guestAt_31
    · rw [if_neg c2] at h
      refine V_icmp_geF C 30 dX1_guestAt_9 (by decide) c2 ?_
      refine V_iload_n C 1 dX1_guestAt_12 rfl rfl ?_
      refine V_aload_n C 0 dX1_guestAt_13 rfl rfl ?_
      refine fg1_18 (r := 29) C oX_27 rfl dX1_guestAt_14 ?_
      refine V_alenI C oX_29.1 oX_29.2.1 (w := 5) rfl dX1_guestAt_17 ?_
      by_cases c3 : 5 ≤ l1
      · rw [if_pos c3] at h
        refine V_icmp_geT C 30 dX1_guestAt_18 (by decide) c3 ?_
        refine V_iconst C (w := (-1)) dX1_guestAt_30 (by decide) ?_
        obtain rfl := Option.some.inj h
        exact V_iret C rfl rfl dX1_guestAt_31
      · rw [if_neg c3] at h
        refine V_icmp_geF C 30 dX1_guestAt_18 (by decide) c3 ?_
        refine V_aload_n C 0 dX1_guestAt_21 rfl rfl ?_
        refine fg1_18 (r := 29) C oX_27 rfl dX1_guestAt_22 ?_
        refine V_iload_n C 1 dX1_guestAt_25 rfl rfl ?_
        have g4 : ¬ (ob l1 5) := fun g9 => by rw [if_pos g9] at h; cases h
        rw [if_neg g4] at h
        refine V_ialdO C oX_29 g4 dX1_guestAt_26 ?_
        refine V_goto C 31 dX1_guestAt_27 (by decide) ?_
        obtain rfl := Option.some.inj h
        exact V_iret C rfl rfl dX1_guestAt_31
def X1_screamsSoFar_b4 : Nat → Int32 → Int32 → St → Option Int32
  | 0, _, _, _ => none
  | F + 1, l1, l2, σ => if (σ.1 27 8) ≤ l2 then (some l1) else (if 5 ≤ l2 then (some l1) else (if ob l2 5 then none else (if (σ.1 33 (l2).toNatClampNeg) = 0 then (X1_screamsSoFar_b4 F l1 (l2 + 1) σ) else (X1_screamsSoFar_b4 F (l1 + 1) (l2 + 1) σ))))
set_option maxRecDepth 100000 in
set_option maxHeartbeats 4000000 in
theorem X1_screamsSoFar_b4_ok {G : Gx} {p : Program} {l : Launch} {e : Env} {d : Nat} {s : State} {m : MethodId} {args : Array Value} {below : List Frame} {meth : Method} {c : Code} {A : Nat → Prop} (C : OK shX G p s m args meth c RX1 cX1_screamsSoFar 3 (some FieldType.int) A) (hd : 1 ≤ d) : ∀ (F : Nat) {l1 : Int32} {l2 : Int32} {σ : St} {x : Int32} (h : X1_screamsSoFar_b4 F l1 l2 σ = some x), Vw shX G p l e d s m args below meth c 3 A σ 4 [(0, .ref (G.2.1 27)), (1, .int l1), (2, .int l2)] [] (some (.int x)) σ := by
  intro F
  induction F with
  | zero =>
    intro l1 l2 σ x h
    rw [X1_screamsSoFar_b4] at h
    cases h
  | succ F ih =>
    intro l1 l2 σ x h
    rw [X1_screamsSoFar_b4] at h
    refine V_iload_n C 2 dX1_screamsSoFar_4 rfl rfl ?_
    refine V_aload_n C 0 dX1_screamsSoFar_5 rfl rfl ?_
    refine fg1_35 C oX_27 dX1_screamsSoFar_6 ?_
    by_cases c1 : (σ.1 27 8) ≤ l2
    · rw [if_pos c1] at h
      refine V_icmp_geT C 39 dX1_screamsSoFar_9 (by decide) c1 ?_
      refine V_iload_n C 1 dX1_screamsSoFar_39 rfl rfl ?_
      obtain rfl := Option.some.inj h
      exact V_iret C rfl rfl dX1_screamsSoFar_40
    · rw [if_neg c1] at h
      refine V_icmp_geF C 39 dX1_screamsSoFar_9 (by decide) c1 ?_
      refine V_iload_n C 2 dX1_screamsSoFar_12 rfl rfl ?_
      refine V_aload_n C 0 dX1_screamsSoFar_13 rfl rfl ?_
      refine fg1_32 (r := 33) C oX_27 rfl dX1_screamsSoFar_14 ?_
      refine V_alenZ C oX_33.1 oX_33.2.1 (w := 5) rfl dX1_screamsSoFar_17 ?_
      by_cases c2 : 5 ≤ l2
      · rw [if_pos c2] at h
        refine V_icmp_geT C 39 dX1_screamsSoFar_18 (by decide) c2 ?_
        refine V_iload_n C 1 dX1_screamsSoFar_39 rfl rfl ?_
        obtain rfl := Option.some.inj h
        exact V_iret C rfl rfl dX1_screamsSoFar_40
      · rw [if_neg c2] at h
        refine V_icmp_geF C 39 dX1_screamsSoFar_18 (by decide) c2 ?_
        refine V_aload_n C 0 dX1_screamsSoFar_21 rfl rfl ?_
        refine fg1_32 (r := 33) C oX_27 rfl dX1_screamsSoFar_22 ?_
        refine V_iload_n C 2 dX1_screamsSoFar_25 rfl rfl ?_
        have g3 : ¬ (ob l2 5) := fun g9 => by rw [if_pos g9] at h; cases h
        rw [if_neg g3] at h
        refine V_zaldO C oX_33 g3 dX1_screamsSoFar_26 ?_
        by_cases c4 : (σ.1 33 (l2).toNatClampNeg) = 0
        · rw [if_pos c4] at h
          refine V_if_eqT C 33 dX1_screamsSoFar_27 (by decide) c4 ?_
          refine V_iinc C (w := (l2 + 1)) (lv' := [(2, .int (l2 + 1)), (0, .ref (G.2.1 27)), (1, .int l1)]) 2 dX1_screamsSoFar_33 rfl (congrArg (l2 + ·) (show Int32.ofInt 1 = 1 by decide)) (by decide) rfl ?_
          refine V_goto C 4 dX1_screamsSoFar_36 (by decide) ?_
          refine V_sub (lv' := [(0, .ref (G.2.1 27)), (1, .int l1), (2, .int (l2 + 1))]) [1, 2, 0] rfl ?_
          exact ih h
        · rw [if_neg c4] at h
          refine V_if_eqF C 33 dX1_screamsSoFar_27 (by decide) c4 ?_
          refine V_iinc C (w := (l1 + 1)) (lv' := [(1, .int (l1 + 1)), (0, .ref (G.2.1 27)), (2, .int l2)]) 1 dX1_screamsSoFar_30 rfl (congrArg (l1 + ·) (show Int32.ofInt 1 = 1 by decide)) (by decide) rfl ?_
          refine V_iinc C (w := (l2 + 1)) (lv' := [(2, .int (l2 + 1)), (1, .int (l1 + 1)), (0, .ref (G.2.1 27))]) 2 dX1_screamsSoFar_33 rfl (congrArg (l2 + ·) (show Int32.ofInt 1 = 1 by decide)) (by decide) rfl ?_
          refine V_goto C 4 dX1_screamsSoFar_36 (by decide) ?_
          refine V_sub (lv' := [(0, .ref (G.2.1 27)), (1, .int (l1 + 1)), (2, .int (l2 + 1))]) [2, 1, 0] rfl ?_
          exact ih h
def X1_screamsSoFar (σ : St) : Option Int32 := X1_screamsSoFar_b4 FU 0 0 σ
set_option maxRecDepth 100000 in
set_option maxHeartbeats 4000000 in
theorem X1_screamsSoFar_ok {σ : St} {x : Int32} (h : X1_screamsSoFar σ = some x) : Ct shX (1) yX1_screamsSoFar cX1_screamsSoFar 3 (some FieldType.int) (fun G => [.ref (G.2.1 27)]) σ (fun G => some (.int x)) σ := by
  refine Ct.of mw_X1_screamsSoFar.1 (by decide +kernel) (fun G => Nat.le_of_ble_eq_true rfl) (fun G p l e d s m args below meth c A hd C => ?_)
  refine (?_ : Vw shX G p l e d s m args below meth c 3 A σ 0 [(0, .ref (G.2.1 27))] [] (some (.int x)) σ)
  unfold X1_screamsSoFar at h
  refine V_iconst C (w := 0) dX1_screamsSoFar_0 (by decide) ?_
  refine V_istore_n C (lv' := [(1, .int 0), (0, .ref (G.2.1 27))]) dX1_screamsSoFar_1 rfl (by decide) rfl ?_
  refine V_iconst C (w := 0) dX1_screamsSoFar_2 (by decide) ?_
  refine V_istore_n C (lv' := [(2, .int 0), (1, .int 0), (0, .ref (G.2.1 27))]) dX1_screamsSoFar_3 rfl (by decide) rfl ?_
  refine V_sub (lv' := [(0, .ref (G.2.1 27)), (1, .int 0), (2, .int 0)]) [2, 1, 0] rfl ?_
  exact X1_screamsSoFar_b4_ok C hd FU h
def X8_isFull (σ : St) : Option Int32 := if (σ.1 13 5) < 0 then (some 1) else (if (σ.1 13 5) < 6 then (some 0) else (some 1))
set_option maxRecDepth 100000 in
set_option maxHeartbeats 4000000 in
theorem X8_isFull_ok {σ : St} {x : Int32} (h : X8_isFull σ = some x) : Ct shX (1) yX8_isFull cX8_isFull 1 (some FieldType.boolean) (fun G => [.ref (G.2.1 13)]) σ (fun G => some (.int x)) σ := by
  refine Ct.of mw_X8_isFull.1 (by decide +kernel) (fun G => Nat.le_of_ble_eq_true rfl) (fun G p l e d s m args below meth c A hd C => ?_)
  refine (?_ : Vw shX G p l e d s m args below meth c 1 A σ 0 [(0, .ref (G.2.1 13))] [] (some (.int x)) σ)
  unfold X8_isFull at h
  refine V_aload_n C 0 dX8_isFull_0 rfl rfl ?_
  refine fg8_29 C oX_13 dX8_isFull_1 ?_
  by_cases c1 : (σ.1 13 5) < 0
  · rw [if_pos c1] at h
    refine V_if_ltT C 16 dX8_isFull_4 (by decide) c1 ?_
    refine V_iconst C (w := 1) dX8_isFull_16 (by decide) ?_
    refine V_goto C 21 dX8_isFull_17 (by decide) ?_
    obtain rfl := Option.some.inj h
    exact V_iret C rfl (nz (Or.inr rfl)) dX8_isFull_21
  · rw [if_neg c1] at h
    refine V_if_ltF C 16 dX8_isFull_4 (by decide) c1 ?_
    refine V_aload_n C 0 dX8_isFull_7 rfl rfl ?_
    refine fg8_29 C oX_13 dX8_isFull_8 ?_
    refine V_bipush C (w := 6) dX8_isFull_11 (by decide) ?_
    by_cases c2 : (σ.1 13 5) < 6
    · rw [if_pos c2] at h
      refine V_icmp_ltT C 20 dX8_isFull_13 (by decide) c2 ?_
      refine V_iconst C (w := 0) dX8_isFull_20 (by decide) ?_
      obtain rfl := Option.some.inj h
      exact V_iret C rfl (nz (Or.inl rfl)) dX8_isFull_21
    · rw [if_neg c2] at h
      refine V_icmp_ltF C 20 dX8_isFull_13 (by decide) c2 ?_
      refine V_iconst C (w := 1) dX8_isFull_16 (by decide) ?_
      refine V_goto C 21 dX8_isFull_17 (by decide) ?_
      obtain rfl := Option.some.inj h
      exact V_iret C rfl (nz (Or.inr rfl)) dX8_isFull_21
def X8_beginDraft (σ : St) : Option St := (X8_isFull σ).bind (fun x1 => if x1 = 0 then (if ob (σ.1 13 5) 6 then none else (some (up σ 23 ((σ.1 13 5)).toNatClampNeg 0))) else (some σ))
set_option maxRecDepth 100000 in
set_option maxHeartbeats 4000000 in
theorem X8_beginDraft_ok {σ : St} {x : St} (h : X8_beginDraft σ = some x) : Ct shX (2) yX8_beginDraft cX8_beginDraft 1 none (fun G => [.ref (G.2.1 13)]) σ (fun G => none) x := by
  refine Ct.of mw_X8_beginDraft.1 (by decide +kernel) (fun G => Nat.le_of_ble_eq_true rfl) (fun G p l e d s m args below meth c A hd C => ?_)
  refine (?_ : Vw shX G p l e d s m args below meth c 1 A σ 0 [(0, .ref (G.2.1 13))] [] (none) x)
  unfold X8_beginDraft at h
  refine V_aload_n C 0 dX8_beginDraft_0 rfl rfl ?_
  obtain ⟨x1, h1, h⟩ := Option.bind_eq_some_iff.mp h
  refine V_callVi (As := []) C (X8_isFull_ok h1) mw_X8_isFull.1 mw_X8_isFull.2.1 mw_X8_isFull.2.2 q8_33 oX_13.1 oX_13.2.1 (by decide) rfl rfl (by omega) rfl rfl rfl (Nat.le_of_ble_eq_true rfl) dX8_beginDraft_1 ?_
  by_cases c1 : x1 = 0
  · rw [if_pos c1] at h
    refine V_if_neF C 17 dX8_beginDraft_4 (by decide) c1 ?_
    refine V_aload_n C 0 dX8_beginDraft_7 rfl rfl ?_
    refine fg8_23 (r := 23) C oX_13 rfl dX8_beginDraft_8 ?_
    refine V_aload_n C 0 dX8_beginDraft_11 rfl rfl ?_
    refine fg8_29 C oX_13 dX8_beginDraft_12 ?_
    refine V_iconst C (w := 0) dX8_beginDraft_15 (by decide) ?_
    have g2 : ¬ (ob (σ.1 13 5) 6) := fun g9 => by rw [if_pos g9] at h; cases h
    rw [if_neg g2] at h
    refine V_iastO C oX_23 g2 dX8_beginDraft_16 ?_
    obtain rfl := Option.some.inj h
    exact V_vret C rfl dX8_beginDraft_17
  · rw [if_neg c1] at h
    refine V_if_neT C 17 dX8_beginDraft_4 (by decide) c1 ?_
    obtain rfl := Option.some.inj h
    exact V_vret C rfl dX8_beginDraft_17
def X7_byteAt (l1 : Int32) (σ : St) : Option Int32 := if l1 < 0 then (some (-1)) else (if (σ.1 11 1) ≤ l1 then (some (-1)) else (if 160 ≤ l1 then (some (-1)) else (if ob l1 160 then none else (some (σ.1 12 (l1).toNatClampNeg)))))
set_option maxRecDepth 100000 in
set_option maxHeartbeats 4000000 in
theorem X7_byteAt_ok {l1 : Int32} {σ : St} {x : Int32} (h : X7_byteAt l1 σ = some x) : Ct shX (1) yX7_byteAt cX7_byteAt 2 (some FieldType.int) (fun G => [.ref (G.2.1 11), .int l1]) σ (fun G => some (.int x)) σ := by
  refine Ct.of mw_X7_byteAt.1 (by decide +kernel) (fun G => Nat.le_of_ble_eq_true rfl) (fun G p l e d s m args below meth c A hd C => ?_)
  refine (?_ : Vw shX G p l e d s m args below meth c 2 A σ 0 [(0, .ref (G.2.1 11)), (1, .int l1)] [] (some (.int x)) σ)
  unfold X7_byteAt at h
  refine V_iload_n C 1 dX7_byteAt_0 rfl rfl ?_
  by_cases c1 : l1 < 0
  · rw [if_pos c1] at h
    refine V_if_ltT C 30 dX7_byteAt_1 (by decide) c1 ?_
    refine V_iconst C (w := (-1)) dX7_byteAt_30 (by decide) ?_
    obtain rfl := Option.some.inj h
    exact V_iret C rfl rfl dX7_byteAt_31
  · rw [if_neg c1] at h
    refine V_if_ltF C 30 dX7_byteAt_1 (by decide) c1 ?_
    refine V_iload_n C 1 dX7_byteAt_4 rfl rfl ?_
    refine V_aload_n C 0 dX7_byteAt_5 rfl rfl ?_
    refine fg7_15 C oX_11 dX7_byteAt_6 ?_
    by_cases c2 : (σ.1 11 1) ≤ l1
    · rw [if_pos c2] at h
      refine V_icmp_geT C 30 dX7_byteAt_9 (by decide) c2 ?_
      refine V_iconst C (w := (-1)) dX7_byteAt_30 (by decide) ?_
      obtain rfl := Option.some.inj h
      exact V_iret C rfl rfl dX7_byteAt_31
    · rw [if_neg c2] at h
      refine V_icmp_geF C 30 dX7_byteAt_9 (by decide) c2 ?_
      refine V_iload_n C 1 dX7_byteAt_12 rfl rfl ?_
      refine V_aload_n C 0 dX7_byteAt_13 rfl rfl ?_
      refine fg7_9 (r := 12) C oX_11 rfl dX7_byteAt_14 ?_
      refine V_alenI C oX_12.1 oX_12.2.1 (w := 160) rfl dX7_byteAt_17 ?_
      by_cases c3 : 160 ≤ l1
      · rw [if_pos c3] at h
        refine V_icmp_geT C 30 dX7_byteAt_18 (by decide) c3 ?_
        refine V_iconst C (w := (-1)) dX7_byteAt_30 (by decide) ?_
        obtain rfl := Option.some.inj h
        exact V_iret C rfl rfl dX7_byteAt_31
      · rw [if_neg c3] at h
        refine V_icmp_geF C 30 dX7_byteAt_18 (by decide) c3 ?_
        refine V_aload_n C 0 dX7_byteAt_21 rfl rfl ?_
        refine fg7_9 (r := 12) C oX_11 rfl dX7_byteAt_22 ?_
        refine V_iload_n C 1 dX7_byteAt_25 rfl rfl ?_
        have g4 : ¬ (ob l1 160) := fun g9 => by rw [if_pos g9] at h; cases h
        rw [if_neg g4] at h
        refine V_ialdO C oX_12 g4 dX7_byteAt_26 ?_
        refine V_goto C 31 dX7_byteAt_27 (by decide) ?_
        obtain rfl := Option.some.inj h
        exact V_iret C rfl rfl dX7_byteAt_31
def X7_isBlank (l0 : Int32) : Option Int32 := if l0 = 32 then (some 1) else (if l0 = 10 then (some 1) else (some 0))
set_option maxRecDepth 100000 in
set_option maxHeartbeats 4000000 in
theorem X7_isBlank_ok {l0 : Int32} {σ : St} {x : Int32} (h : X7_isBlank l0 = some x) : Ct shX (1) yX7_isBlank cX7_isBlank 1 (some FieldType.boolean) (fun G => [.int l0]) σ (fun G => some (.int x)) σ := by
  refine Ct.of mw_X7_isBlank.1 (by decide +kernel) (fun G => Nat.le_of_ble_eq_true rfl) (fun G p l e d s m args below meth c A hd C => ?_)
  refine (?_ : Vw shX G p l e d s m args below meth c 1 A σ 0 [(0, .int l0)] [] (some (.int x)) σ)
  unfold X7_isBlank at h
  refine V_iload_n C 0 dX7_isBlank_0 rfl rfl ?_
  refine V_bipush C (w := 32) dX7_isBlank_1 (by decide) ?_
  by_cases c1 : l0 = 32
  · rw [if_pos c1] at h
    refine V_icmp_eqT C 12 dX7_isBlank_3 (by decide) c1 ?_
    refine V_iconst C (w := 1) dX7_isBlank_12 (by decide) ?_
    refine V_goto C 17 dX7_isBlank_13 (by decide) ?_
    obtain rfl := Option.some.inj h
    exact V_iret C rfl (nz (Or.inr rfl)) dX7_isBlank_17
  · rw [if_neg c1] at h
    refine V_icmp_eqF C 12 dX7_isBlank_3 (by decide) c1 ?_
    refine V_iload_n C 0 dX7_isBlank_6 rfl rfl ?_
    refine V_bipush C (w := 10) dX7_isBlank_7 (by decide) ?_
    by_cases c2 : l0 = 10
    · rw [if_pos c2] at h
      refine V_icmp_neF C 16 dX7_isBlank_9 (by decide) c2 ?_
      refine V_iconst C (w := 1) dX7_isBlank_12 (by decide) ?_
      refine V_goto C 17 dX7_isBlank_13 (by decide) ?_
      obtain rfl := Option.some.inj h
      exact V_iret C rfl (nz (Or.inr rfl)) dX7_isBlank_17
    · rw [if_neg c2] at h
      refine V_icmp_neT C 16 dX7_isBlank_9 (by decide) c2 ?_
      refine V_iconst C (w := 0) dX7_isBlank_16 (by decide) ?_
      obtain rfl := Option.some.inj h
      exact V_iret C rfl (nz (Or.inl rfl)) dX7_isBlank_17
def X7_isLetter (l0 : Int32) : Option Int32 := if l0 < 97 then (some 0) else (if 122 < l0 then (some 0) else (some 1))
set_option maxRecDepth 100000 in
set_option maxHeartbeats 4000000 in
theorem X7_isLetter_ok {l0 : Int32} {σ : St} {x : Int32} (h : X7_isLetter l0 = some x) : Ct shX (1) yX7_isLetter cX7_isLetter 1 (some FieldType.boolean) (fun G => [.int l0]) σ (fun G => some (.int x)) σ := by
  refine Ct.of mw_X7_isLetter.1 (by decide +kernel) (fun G => Nat.le_of_ble_eq_true rfl) (fun G p l e d s m args below meth c A hd C => ?_)
  refine (?_ : Vw shX G p l e d s m args below meth c 1 A σ 0 [(0, .int l0)] [] (some (.int x)) σ)
  unfold X7_isLetter at h
  refine V_iload_n C 0 dX7_isLetter_0 rfl rfl ?_
  refine V_bipush C (w := 97) dX7_isLetter_1 (by decide) ?_
  by_cases c1 : l0 < 97
  · rw [if_pos c1] at h
    refine V_icmp_ltT C 16 dX7_isLetter_3 (by decide) c1 ?_
    refine V_iconst C (w := 0) dX7_isLetter_16 (by decide) ?_
    obtain rfl := Option.some.inj h
    exact V_iret C rfl (nz (Or.inl rfl)) dX7_isLetter_17
  · rw [if_neg c1] at h
    refine V_icmp_ltF C 16 dX7_isLetter_3 (by decide) c1 ?_
    refine V_iload_n C 0 dX7_isLetter_6 rfl rfl ?_
    refine V_bipush C (w := 122) dX7_isLetter_7 (by decide) ?_
    by_cases c2 : 122 < l0
    · rw [if_pos c2] at h
      refine V_icmp_gtT C 16 dX7_isLetter_9 (by decide) c2 ?_
      refine V_iconst C (w := 0) dX7_isLetter_16 (by decide) ?_
      obtain rfl := Option.some.inj h
      exact V_iret C rfl (nz (Or.inl rfl)) dX7_isLetter_17
    · rw [if_neg c2] at h
      refine V_icmp_gtF C 16 dX7_isLetter_9 (by decide) c2 ?_
      refine V_iconst C (w := 1) dX7_isLetter_12 (by decide) ?_
      refine V_goto C 17 dX7_isLetter_13 (by decide) ?_
      obtain rfl := Option.some.inj h
      exact V_iret C rfl (nz (Or.inr rfl)) dX7_isLetter_17
