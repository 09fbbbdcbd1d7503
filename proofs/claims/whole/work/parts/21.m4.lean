def X10_seeksWays_K : Nat → Int32 → Int32 → Int32 → Int32 → St → Option St
  | 0, _, _, _, _, _ => none
  | n + 1, l1, l2, l3, l4, σ => X10_seeksWays (X10_seeksWays_K n) l1 l2 l3 l4 σ
theorem X10_seeksWays_K_ok : ∀ n : Nat, (∀  {l1 : Int32} {l2 : Int32} {l3 : Int32} {l4 : Int32} {σ : St} {x : St}, X10_seeksWays_K n l1 l2 l3 l4 σ = some x → Ct shM (64 + 1 * n) yX10_seeksWays cX10_seeksWays 6 none (fun G => [.ref (G.2.1 0), .int l1, .int l2, .int l3, .int l4]) σ (fun G => none) x) := by
  intro n
  induction n with
  | zero => refine fun h => by cases h
  | succ n ih =>
    refine fun h => Ct.mono (show 64 + 1 * n + 1 ≤ 64 + 1 * (n + 1) by omega) (X10_seeksWays_ok (hr := 64 + 1 * n) (rec := X10_seeksWays_K n) (by omega) ih (by exact h))
theorem X10_seeksWays_okK {l1 : Int32} {l2 : Int32} {l3 : Int32} {l4 : Int32} {σ : St} {x : St} (h : X10_seeksWays (X10_seeksWays_K FR) l1 l2 l3 l4 σ = some x) : Ct shM 73 yX10_seeksWays cX10_seeksWays 6 none (fun G => [.ref (G.2.1 0), .int l1, .int l2, .int l3, .int l4]) σ (fun G => none) x := Ct.mono (show 64 + 1 * FR + 1 ≤ 73 by decide) (X10_seeksWays_ok (hr := 64 + 1 * FR) (by omega) (X10_seeksWays_K_ok FR) h)
def X10_firstOther_b6 : Nat → Int32 → Int32 → St → Option (Int32 × St)
  | 0, _, _, _ => none
  | F + 1, l1, l2, σ => if (σ.1 0 11) ≤ l2 then (some ((-1), σ)) else ((X10_comes l2 l2 σ).bind (fun x17 => if ob (l2 + 1) 6 then none else (if ob ((40 * l1) + l2) 160 then none else (if (x17.1 8 ((l2 + 1)).toNatClampNeg) = (x17.1 18 (((40 * l1) + l2)).toNatClampNeg) then (X10_firstOther_b6 F l1 (l2 + 1) x17) else (some (l2, x17))))))
set_option maxRecDepth 100000 in
set_option maxHeartbeats 4000000 in
theorem X10_firstOther_b6_ok {G : Gx} {p : Program} {l : Launch} {e : Env} {d : Nat} {s : State} {m : MethodId} {args : Array Value} {below : List Frame} {meth : Method} {c : Code} {A : Nat → Prop} (C : OK shM G p s m args meth c RX10 cX10_firstOther 3 (some FieldType.int) A) (hd : 64 ≤ d) : ∀ (F : Nat) {l1 : Int32} {l2 : Int32} {σ : St} {x : (Int32 × St)} (h : X10_firstOther_b6 F l1 l2 σ = some x), Vw shM G p l e d s m args below meth c 3 A σ 6 [(0, .ref (G.2.1 0)), (1, .int l1), (2, .int l2)] [] (some (.int x.1)) x.2 := by
  intro F
  induction F with
  | zero =>
    intro l1 l2 σ x h
    rw [X10_firstOther_b6] at h
    cases h
  | succ F ih =>
    intro l1 l2 σ x h
    rw [X10_firstOther_b6] at h
    refine V_iload_n C 2 dX10_firstOther_6 rfl rfl ?_
    refine V_aload_n C 0 dX10_firstOther_7 rfl rfl ?_
    refine fg10_79 C oM_0 dX10_firstOther_8 ?_
    by_cases c1 : (σ.1 0 11) ≤ l2
    · rw [if_pos c1] at h
      refine V_icmp_geT C 50 dX10_firstOther_11 (by decide) c1 ?_
      refine V_iconst C (w := (-1)) dX10_firstOther_50 (by decide) ?_
      cases h
      exact V_iret C rfl rfl dX10_firstOther_51
    · rw [if_neg c1] at h
      refine V_icmp_geF C 50 dX10_firstOther_11 (by decide) c1 ?_
      refine V_aload_n C 0 dX10_firstOther_14 rfl rfl ?_
      refine V_iload_n C 2 dX10_firstOther_15 rfl rfl ?_
      refine V_iload_n C 2 dX10_firstOther_16 rfl rfl ?_
      obtain ⟨x17, h17, h⟩ := Option.bind_eq_some_iff.mp h
      refine V_callVv (As := [.int l2, .int l2]) C (X10_comes_ok h17) mw_X10_comes.1 mw_X10_comes.2.1 mw_X10_comes.2.2 q10_253 oM_0.1 oM_0.2.1 (by decide) rfl rfl (by omega) rfl rfl rfl (Nat.le_of_ble_eq_true rfl) dX10_firstOther_17 ?_
      refine V_aload_n C 0 dX10_firstOther_20 rfl rfl ?_
      refine fg10_35 (r := 8) C oM_0 rfl dX10_firstOther_21 ?_
      refine V_iload_n C 2 dX10_firstOther_24 rfl rfl ?_
      refine V_iconst C (w := 1) dX10_firstOther_25 (by decide) ?_
      refine V_iadd C dX10_firstOther_26 ?_
      have g2 : ¬ (ob (l2 + 1) 6) := fun g9 => by rw [if_pos g9] at h; cases h
      rw [if_neg g2] at h
      refine V_ialdO C oM_8 g2 dX10_firstOther_27 ?_
      refine V_aload_n C 0 dX10_firstOther_28 rfl rfl ?_
      refine fg10_69 (r := 18) C oM_0 rfl dX10_firstOther_29 ?_
      refine V_bipush C (w := 40) dX10_firstOther_32 (by decide) ?_
      refine V_iload_n C 1 dX10_firstOther_34 rfl rfl ?_
      refine V_imul C dX10_firstOther_35 ?_
      refine V_iload_n C 2 dX10_firstOther_36 rfl rfl ?_
      refine V_iadd C dX10_firstOther_37 ?_
      have g3 : ¬ (ob ((40 * l1) + l2) 160) := fun g9 => by rw [if_pos g9] at h; cases h
      rw [if_neg g3] at h
      refine V_ialdO C oM_18 g3 dX10_firstOther_38 ?_
      by_cases c4 : (x17.1 8 ((l2 + 1)).toNatClampNeg) = (x17.1 18 (((40 * l1) + l2)).toNatClampNeg)
      · rw [if_pos c4] at h
        refine V_icmp_eqT C 44 dX10_firstOther_39 (by decide) c4 ?_
        refine V_iinc C (w := (l2 + 1)) (lv' := [(2, .int (l2 + 1)), (0, .ref (G.2.1 0)), (1, .int l1)]) 2 dX10_firstOther_44 rfl (congrArg (l2 + ·) (show Int32.ofInt 1 = 1 by decide)) (by decide) rfl ?_
        refine V_goto C 6 dX10_firstOther_47 (by decide) ?_
        refine V_sub (lv' := [(0, .ref (G.2.1 0)), (1, .int l1), (2, .int (l2 + 1))]) [1, 2, 0] rfl ?_
        exact ih h
      · rw [if_neg c4] at h
        refine V_icmp_eqF C 44 dX10_firstOther_39 (by decide) c4 ?_
        refine V_iload_n C 2 dX10_firstOther_42 rfl rfl ?_
        cases h
        exact V_iret C rfl rfl dX10_firstOther_43
def X10_firstOther (l1 : Int32) (σ : St) : Option (Int32 × St) := (X10_begins σ).bind (fun x1 => X10_firstOther_b6 FU l1 0 x1)
set_option maxRecDepth 100000 in
set_option maxHeartbeats 4000000 in
theorem X10_firstOther_ok {l1 : Int32} {σ : St} {x : (Int32 × St)} (h : X10_firstOther l1 σ = some x) : Ct shM (64) yX10_firstOther cX10_firstOther 3 (some FieldType.int) (fun G => [.ref (G.2.1 0), .int l1]) σ (fun G => some (.int x.1)) x.2 := by
  refine Ct.of mw_X10_firstOther.1 (by decide +kernel) (fun G => Nat.le_of_ble_eq_true rfl) (fun G p l e d s m args below meth c A hd C => ?_)
  refine (?_ : Vw shM G p l e d s m args below meth c 3 A σ 0 [(0, .ref (G.2.1 0)), (1, .int l1)] [] (some (.int x.1)) x.2)
  unfold X10_firstOther at h
  refine V_aload_n C 0 dX10_firstOther_0 rfl rfl ?_
  obtain ⟨x1, h1, h⟩ := Option.bind_eq_some_iff.mp h
  refine V_callVv (As := []) C (X10_begins_ok h1) mw_X10_begins.1 mw_X10_begins.2.1 mw_X10_begins.2.2 q10_113 oM_0.1 oM_0.2.1 (by decide) rfl rfl (by omega) rfl rfl rfl (Nat.le_of_ble_eq_true rfl) dX10_firstOther_1 ?_
  refine V_iconst C (w := 0) dX10_firstOther_4 (by decide) ?_
  refine V_istore_n C (lv' := [(2, .int 0), (0, .ref (G.2.1 0)), (1, .int l1)]) dX10_firstOther_5 rfl (by decide) rfl ?_
  refine V_sub (lv' := [(0, .ref (G.2.1 0)), (1, .int l1), (2, .int 0)]) [1, 2, 0] rfl ?_
  exact X10_firstOther_b6_ok C hd FU h
def X10_sure_b45 (K4 : Int32 → Int32 → St → Option Int32) (l2 : Int32) (s0 : Int32) (s1 : Int32) (σ : St) : Option Int32 := K4 (s1 ||| (s0 <<< (l2 &&& 31))) (l2 + 1) σ
set_option maxRecDepth 100000 in
set_option maxHeartbeats 4000000 in
theorem X10_sure_b45_ok {G : Gx} {p : Program} {l : Launch} {e : Env} {d : Nat} {s : State} {m : MethodId} {args : Array Value} {below : List Frame} {meth : Method} {c : Code} {A : Nat → Prop} {K4 : Int32 → Int32 → St → Option Int32} (C : OK shM G p s m args meth c RX10 cX10_sure 3 (some FieldType.int) A) (hd : 1 ≤ d) (hK4 : ∀  {l1 : Int32} {l2 : Int32} {σ : St} {x : Int32}, K4 l1 l2 σ = some x → Vw shM G p l e d s m args below meth c 3 A σ 4 [(0, .ref (G.2.1 0)), (1, .int l1), (2, .int l2)] [] (some (.int x)) σ) {l2 : Int32} {s0 : Int32} {s1 : Int32} {σ : St} {x : Int32} (h : X10_sure_b45 K4 l2 s0 s1 σ = some x) : Vw shM G p l e d s m args below meth c 3 A σ 45 [(0, .ref (G.2.1 0)), (2, .int l2)] [.int s0, .int s1] (some (.int x)) σ := by
  unfold X10_sure_b45 at h
  refine V_iload_n C 1 dX10_sure_45 rfl rfl ?_
  refine V_ishl C dX10_sure_46 ?_
  refine V_ior C dX10_sure_47 ?_
  refine V_istore_n C (lv' := [(1, .int (s1 ||| (s0 <<< (l2 &&& 31)))), (0, .ref (G.2.1 0)), (2, .int l2)]) dX10_sure_48 rfl (by decide) rfl ?_
  refine V_iinc C (w := (l2 + 1)) (lv' := [(2, .int (l2 + 1)), (1, .int (s1 ||| (s0 <<< (l2 &&& 31)))), (0, .ref (G.2.1 0))]) 2 dX10_sure_49 rfl (congrArg (l2 + ·) (show Int32.ofInt 1 = 1 by decide)) (by decide) rfl ?_
  refine V_goto C 4 dX10_sure_52 (by decide) ?_
  refine V_sub (lv' := [(0, .ref (G.2.1 0)), (1, .int (s1 ||| (s0 <<< (l2 &&& 31)))), (2, .int (l2 + 1))]) [2, 1, 0] rfl ?_
  exact hK4 h
def X10_sure_b4 : Nat → Int32 → Int32 → St → Option Int32
  | 0, _, _, _ => none
  | F + 1, l1, l2, σ => if (σ.1 0 11) ≤ l2 then (some l1) else (if ob l2 5 then none else (if (σ.1 11 (l2).toNatClampNeg) = 0 then (X10_sure_b45 (X10_sure_b4 F) l2 0 l1 σ) else (if ob l2 5 then none else (if ob l2 5 then none else (if ((σ.1 11 (l2).toNatClampNeg) &&& ((σ.1 11 (l2).toNatClampNeg) - 1)) = 0 then (X10_sure_b45 (X10_sure_b4 F) l2 1 l1 σ) else (X10_sure_b45 (X10_sure_b4 F) l2 0 l1 σ))))))
set_option maxRecDepth 100000 in
set_option maxHeartbeats 4000000 in
theorem X10_sure_b4_ok {G : Gx} {p : Program} {l : Launch} {e : Env} {d : Nat} {s : State} {m : MethodId} {args : Array Value} {below : List Frame} {meth : Method} {c : Code} {A : Nat → Prop} (C : OK shM G p s m args meth c RX10 cX10_sure 3 (some FieldType.int) A) (hd : 1 ≤ d) : ∀ (F : Nat) {l1 : Int32} {l2 : Int32} {σ : St} {x : Int32} (h : X10_sure_b4 F l1 l2 σ = some x), Vw shM G p l e d s m args below meth c 3 A σ 4 [(0, .ref (G.2.1 0)), (1, .int l1), (2, .int l2)] [] (some (.int x)) σ := by
  intro F
  induction F with
  | zero =>
    intro l1 l2 σ x h
    rw [X10_sure_b4] at h
    cases h
  | succ F ih =>
    intro l1 l2 σ x h
    rw [X10_sure_b4] at h
    refine V_iload_n C 2 dX10_sure_4 rfl rfl ?_
    refine V_aload_n C 0 dX10_sure_5 rfl rfl ?_
    refine fg10_79 C oM_0 dX10_sure_6 ?_
    by_cases c1 : (σ.1 0 11) ≤ l2
    · rw [if_pos c1] at h
      refine V_icmp_geT C 55 dX10_sure_9 (by decide) c1 ?_
      refine V_iload_n C 1 dX10_sure_55 rfl rfl ?_
      cases h
      exact V_iret C rfl rfl dX10_sure_56
    · rw [if_neg c1] at h
      refine V_icmp_geF C 55 dX10_sure_9 (by decide) c1 ?_
      refine V_iload_n C 1 dX10_sure_12 rfl rfl ?_
      refine V_aload_n C 0 dX10_sure_13 rfl rfl ?_
      refine fg10_45 (r := 11) C oM_0 rfl dX10_sure_14 ?_
      refine V_iload_n C 2 dX10_sure_17 rfl rfl ?_
      have g2 : ¬ (ob l2 5) := fun g9 => by rw [if_pos g9] at h; cases h
      rw [if_neg g2] at h
      refine V_ialdO C oM_11 g2 dX10_sure_18 ?_
      by_cases c3 : (σ.1 11 (l2).toNatClampNeg) = 0
      · rw [if_pos c3] at h
        refine V_if_eqT C 44 dX10_sure_19 (by decide) c3 ?_
        refine V_iconst C (w := 0) dX10_sure_44 (by decide) ?_
        refine V_sub (lv' := [(0, .ref (G.2.1 0)), (2, .int l2)]) [0, 2] rfl ?_
        exact X10_sure_b45_ok C hd (fun h => ih h) h
      · rw [if_neg c3] at h
        refine V_if_eqF C 44 dX10_sure_19 (by decide) c3 ?_
        refine V_aload_n C 0 dX10_sure_22 rfl rfl ?_
        refine fg10_45 (r := 11) C oM_0 rfl dX10_sure_23 ?_
        refine V_iload_n C 2 dX10_sure_26 rfl rfl ?_
        have g4 : ¬ (ob l2 5) := fun g9 => by rw [if_pos g9] at h; cases h
        rw [if_neg g4] at h
        refine V_ialdO C oM_11 g4 dX10_sure_27 ?_
        refine V_aload_n C 0 dX10_sure_28 rfl rfl ?_
        refine fg10_45 (r := 11) C oM_0 rfl dX10_sure_29 ?_
        refine V_iload_n C 2 dX10_sure_32 rfl rfl ?_
        have g5 : ¬ (ob l2 5) := fun g9 => by rw [if_pos g9] at h; cases h
        rw [if_neg g5] at h
        refine V_ialdO C oM_11 g5 dX10_sure_33 ?_
        refine V_iconst C (w := 1) dX10_sure_34 (by decide) ?_
        refine V_isub C dX10_sure_35 ?_
        refine V_iand C dX10_sure_36 ?_
        by_cases c6 : ((σ.1 11 (l2).toNatClampNeg) &&& ((σ.1 11 (l2).toNatClampNeg) - 1)) = 0
        · rw [if_pos c6] at h
          refine V_if_neF C 44 dX10_sure_37 (by decide) c6 ?_
          refine V_iconst C (w := 1) dX10_sure_40 (by decide) ?_
          refine V_goto C 45 dX10_sure_41 (by decide) ?_
          refine V_sub (lv' := [(0, .ref (G.2.1 0)), (2, .int l2)]) [0, 2] rfl ?_
          exact X10_sure_b45_ok C hd (fun h => ih h) h
        · rw [if_neg c6] at h
          refine V_if_neT C 44 dX10_sure_37 (by decide) c6 ?_
          refine V_iconst C (w := 0) dX10_sure_44 (by decide) ?_
          refine V_sub (lv' := [(0, .ref (G.2.1 0)), (2, .int l2)]) [0, 2] rfl ?_
          exact X10_sure_b45_ok C hd (fun h => ih h) h
def X10_sure (σ : St) : Option Int32 := X10_sure_b4 FU 0 0 σ
set_option maxRecDepth 100000 in
set_option maxHeartbeats 4000000 in
theorem X10_sure_ok {σ : St} {x : Int32} (h : X10_sure σ = some x) : Ct shM (1) yX10_sure cX10_sure 3 (some FieldType.int) (fun G => [.ref (G.2.1 0)]) σ (fun G => some (.int x)) σ := by
  refine Ct.of mw_X10_sure.1 (by decide +kernel) (fun G => Nat.le_of_ble_eq_true rfl) (fun G p l e d s m args below meth c A hd C => ?_)
  refine (?_ : Vw shM G p l e d s m args below meth c 3 A σ 0 [(0, .ref (G.2.1 0))] [] (some (.int x)) σ)
  unfold X10_sure at h
  refine V_iconst C (w := 0) dX10_sure_0 (by decide) ?_
  refine V_istore_n C (lv' := [(1, .int 0), (0, .ref (G.2.1 0))]) dX10_sure_1 rfl (by decide) rfl ?_
  refine V_iconst C (w := 0) dX10_sure_2 (by decide) ?_
  refine V_istore_n C (lv' := [(2, .int 0), (1, .int 0), (0, .ref (G.2.1 0))]) dX10_sure_3 rfl (by decide) rfl ?_
  refine V_sub (lv' := [(0, .ref (G.2.1 0)), (1, .int 0), (2, .int 0)]) [2, 1, 0] rfl ?_
  exact X10_sure_b4_ok C hd FU h
def X10_tells_b114 : Nat → Int32 → Int32 → Int32 → St → Option (Int32 × St)
  | 0, _, _, _, _ => none
  | F + 1, l1, l2, l4, σ => if (σ.1 0 11) ≤ l4 then ((X10_begins σ).bind (fun x138 => (X10_everybody x138).bind (fun x144 => (X10_seeksWays (X10_seeksWays_K FR) l1 x144 0 0 x138).bind (fun x149 => if l2 = 0 then (some ((x149.1 0 35), x149)) else (if l2 = 1 then (some ((x149.1 0 36), x149)) else ((X10_sure x149).bind (fun x176 => some (x176, x149)))))))) else (if ob l4 5 then none else (X10_tells_b114 F l1 l2 (l4 + 1) (up σ 11 (l4).toNatClampNeg 0)))
set_option maxRecDepth 100000 in
set_option maxHeartbeats 4000000 in
theorem X10_tells_b114_ok {G : Gx} {p : Program} {l : Launch} {e : Env} {d : Nat} {s : State} {m : MethodId} {args : Array Value} {below : List Frame} {meth : Method} {c : Code} {A : Nat → Prop} (C : OK shM G p s m args meth c RX10 cX10_tells 10 (some FieldType.int) A) (hd : 74 ≤ d) : ∀ (F : Nat) {l1 : Int32} {l2 : Int32} {l4 : Int32} {σ : St} {x : (Int32 × St)} (h : X10_tells_b114 F l1 l2 l4 σ = some x), Vw shM G p l e d s m args below meth c 10 A σ 114 [(0, .ref (G.2.1 0)), (1, .int l1), (2, .int l2), (4, .int l4)] [] (some (.int x.1)) x.2 := by
  intro F
  induction F with
  | zero =>
    intro l1 l2 l4 σ x h
    rw [X10_tells_b114] at h
    cases h
  | succ F ih =>
    intro l1 l2 l4 σ x h
    rw [X10_tells_b114] at h
    refine V_iload C 3 dX10_tells_114 rfl ?_
    refine V_aload_n C 0 dX10_tells_116 rfl rfl ?_
    refine fg10_79 C oM_0 dX10_tells_117 ?_
    by_cases c1 : (σ.1 0 11) ≤ l4
    · rw [if_pos c1] at h
      refine V_icmp_geT C 137 dX10_tells_120 (by decide) c1 ?_
      refine V_aload_n C 0 dX10_tells_137 rfl rfl ?_
      obtain ⟨x138, h138, h⟩ := Option.bind_eq_some_iff.mp h
      refine V_callVv (As := []) C (X10_begins_ok h138) mw_X10_begins.1 mw_X10_begins.2.1 mw_X10_begins.2.2 q10_113 oM_0.1 oM_0.2.1 (by decide) rfl rfl (by omega) rfl rfl rfl (Nat.le_of_ble_eq_true rfl) dX10_tells_138 ?_
      refine V_aload_n C 0 dX10_tells_141 rfl rfl ?_
      refine V_iload_n C 1 dX10_tells_142 rfl rfl ?_
      refine V_aload_n C 0 dX10_tells_143 rfl rfl ?_
      obtain ⟨x144, h144, h⟩ := Option.bind_eq_some_iff.mp h
      refine V_callVi (As := []) C (X10_everybody_ok h144) mw_X10_everybody.1 mw_X10_everybody.2.1 mw_X10_everybody.2.2 q10_289 oM_0.1 oM_0.2.1 (by decide) rfl rfl (by omega) rfl rfl rfl (Nat.le_of_ble_eq_true rfl) dX10_tells_144 ?_
      refine V_iconst C (w := 0) dX10_tells_147 (by decide) ?_
      refine V_iconst C (w := 0) dX10_tells_148 (by decide) ?_
      obtain ⟨x149, h149, h⟩ := Option.bind_eq_some_iff.mp h
      refine V_callVv (As := [.int l1, .int x144, .int 0, .int 0]) C (X10_seeksWays_okK h149) mw_X10_seeksWays.1 mw_X10_seeksWays.2.1 mw_X10_seeksWays.2.2 q10_316 oM_0.1 oM_0.2.1 (by decide) rfl rfl (by omega) rfl rfl rfl (Nat.le_of_ble_eq_true rfl) dX10_tells_149 ?_
      refine V_iload_n C 2 dX10_tells_152 rfl rfl ?_
      by_cases c2 : l2 = 0
      · rw [if_pos c2] at h
        refine V_if_neF C 163 dX10_tells_153 (by decide) c2 ?_
        refine V_aload_n C 0 dX10_tells_156 rfl rfl ?_
        refine fg10_310 C oM_0 dX10_tells_157 ?_
        refine V_goto C 179 dX10_tells_160 (by decide) ?_
        cases h
        exact V_iret C rfl rfl dX10_tells_179
      · rw [if_neg c2] at h
        refine V_if_neT C 163 dX10_tells_153 (by decide) c2 ?_
        refine V_iload_n C 2 dX10_tells_163 rfl rfl ?_
        refine V_iconst C (w := 1) dX10_tells_164 (by decide) ?_
        by_cases c3 : l2 = 1
        · rw [if_pos c3] at h
          refine V_icmp_neF C 175 dX10_tells_165 (by decide) c3 ?_
          refine V_aload_n C 0 dX10_tells_168 rfl rfl ?_
          refine fg10_313 C oM_0 dX10_tells_169 ?_
          refine V_goto C 179 dX10_tells_172 (by decide) ?_
          cases h
          exact V_iret C rfl rfl dX10_tells_179
        · rw [if_neg c3] at h
          refine V_icmp_neT C 175 dX10_tells_165 (by decide) c3 ?_
          refine V_aload_n C 0 dX10_tells_175 rfl rfl ?_
          obtain ⟨x176, h176, h⟩ := Option.bind_eq_some_iff.mp h
          refine V_callVi (As := []) C (X10_sure_ok h176) mw_X10_sure.1 mw_X10_sure.2.1 mw_X10_sure.2.2 q10_327 oM_0.1 oM_0.2.1 (by decide) rfl rfl (by omega) rfl rfl rfl (Nat.le_of_ble_eq_true rfl) dX10_tells_176 ?_
          cases h
          exact V_iret C rfl rfl dX10_tells_179
    · rw [if_neg c1] at h
      refine V_icmp_geF C 137 dX10_tells_120 (by decide) c1 ?_
      refine V_aload_n C 0 dX10_tells_123 rfl rfl ?_
      refine fg10_45 (r := 11) C oM_0 rfl dX10_tells_124 ?_
      refine V_iload C 3 dX10_tells_127 rfl ?_
      refine V_iconst C (w := 0) dX10_tells_129 (by decide) ?_
      have g4 : ¬ (ob l4 5) := fun g9 => by rw [if_pos g9] at h; cases h
      rw [if_neg g4] at h
      refine V_iastO C oM_11 g4 dX10_tells_130 ?_
      refine V_iinc C (w := (l4 + 1)) (lv' := [(4, .int (l4 + 1)), (0, .ref (G.2.1 0)), (1, .int l1), (2, .int l2)]) 3 dX10_tells_131 rfl (congrArg (l4 + ·) (show Int32.ofInt 1 = 1 by decide)) (by decide) rfl ?_
      refine V_goto C 114 dX10_tells_134 (by decide) ?_
      refine V_sub (lv' := [(0, .ref (G.2.1 0)), (1, .int l1), (2, .int l2), (4, .int (l4 + 1))]) [1, 2, 3, 0] rfl ?_
      exact ih h
def X10_tells_b317 (K284 : Int32 → Int32 → Int32 → Int32 → Int32 → Int32 → Int32 → St → Option (Int32 × St)) (l1 : Int32) (l4 : Int32) (l5 : Int32) (l6 : Int32) (l7 : Int32) (l9 : Int32) (s0 : Int32) (s1 : Int32) (σ : St) : Option (Int32 × St) := K284 l1 l4 l5 l6 l7 (s1 ||| (s0 <<< (l9 &&& 31))) (l9 + 1) σ
set_option maxRecDepth 100000 in
set_option maxHeartbeats 4000000 in
theorem X10_tells_b317_ok {G : Gx} {p : Program} {l : Launch} {e : Env} {d : Nat} {s : State} {m : MethodId} {args : Array Value} {below : List Frame} {meth : Method} {c : Code} {A : Nat → Prop} {K284 : Int32 → Int32 → Int32 → Int32 → Int32 → Int32 → Int32 → St → Option (Int32 × St)} (C : OK shM G p s m args meth c RX10 cX10_tells 10 (some FieldType.int) A) (hd : 74 ≤ d) (hK284 : ∀  {l1 : Int32} {l4 : Int32} {l5 : Int32} {l6 : Int32} {l7 : Int32} {l8 : Int32} {l9 : Int32} {σ : St} {x : (Int32 × St)}, K284 l1 l4 l5 l6 l7 l8 l9 σ = some x → Vw shM G p l e d s m args below meth c 10 A σ 284 [(0, .ref (G.2.1 0)), (1, .int l1), (4, .int l4), (5, .int l5), (6, .int l6), (7, .int l7), (8, .int l8), (9, .int l9)] [] (some (.int x.1)) x.2) {l1 : Int32} {l4 : Int32} {l5 : Int32} {l6 : Int32} {l7 : Int32} {l9 : Int32} {s0 : Int32} {s1 : Int32} {σ : St} {x : (Int32 × St)} (h : X10_tells_b317 K284 l1 l4 l5 l6 l7 l9 s0 s1 σ = some x) : Vw shM G p l e d s m args below meth c 10 A σ 317 [(0, .ref (G.2.1 0)), (1, .int l1), (4, .int l4), (5, .int l5), (6, .int l6), (7, .int l7), (9, .int l9)] [.int s0, .int s1] (some (.int x.1)) x.2 := by
  unfold X10_tells_b317 at h
  refine V_iload C 6 dX10_tells_317 rfl ?_
  refine V_ishl C dX10_tells_319 ?_
  refine V_ior C dX10_tells_320 ?_
  refine V_istore C (lv' := [(8, .int (s1 ||| (s0 <<< (l9 &&& 31)))), (0, .ref (G.2.1 0)), (1, .int l1), (4, .int l4), (5, .int l5), (6, .int l6), (7, .int l7), (9, .int l9)]) dX10_tells_321 (by decide) rfl ?_
  refine V_iinc C (w := (l9 + 1)) (lv' := [(9, .int (l9 + 1)), (8, .int (s1 ||| (s0 <<< (l9 &&& 31)))), (0, .ref (G.2.1 0)), (1, .int l1), (4, .int l4), (5, .int l5), (6, .int l6), (7, .int l7)]) 7 dX10_tells_323 rfl (congrArg (l9 + ·) (show Int32.ofInt 1 = 1 by decide)) (by decide) rfl ?_
  refine V_goto C 284 dX10_tells_326 (by decide) ?_
  refine V_sub (lv' := [(0, .ref (G.2.1 0)), (1, .int l1), (4, .int l4), (5, .int l5), (6, .int l6), (7, .int l7), (8, .int (s1 ||| (s0 <<< (l9 &&& 31)))), (9, .int (l9 + 1))]) [2, 3, 4, 5, 6, 7, 1, 0] rfl ?_
  exact hK284 h
def X10_tells_b284 : Nat → Int32 → Int32 → Int32 → Int32 → Int32 → Int32 → Int32 → St → Option (Int32 × St)
  | 0, _, _, _, _, _, _, _, _ => none
  | F + 1, l1, l4, l5, l6, l7, l8, l9, σ => if l7 < l9 then ((X10_lays l5 l4 l6 σ).bind (fun x336 => some (l8, x336))) else ((X10_lays l5 l4 l9 σ).bind (fun x298 => (X10_firstOther l1 x298).bind (fun x305 => if x305.1 = (-1) then (X10_tells_b317 (X10_tells_b284 F) l1 l4 l5 l6 l7 l9 1 l8 x305.2) else (X10_tells_b317 (X10_tells_b284 F) l1 l4 l5 l6 l7 l9 0 l8 x305.2))))
set_option maxRecDepth 100000 in
set_option maxHeartbeats 4000000 in
theorem X10_tells_b284_ok {G : Gx} {p : Program} {l : Launch} {e : Env} {d : Nat} {s : State} {m : MethodId} {args : Array Value} {below : List Frame} {meth : Method} {c : Code} {A : Nat → Prop} (C : OK shM G p s m args meth c RX10 cX10_tells 10 (some FieldType.int) A) (hd : 74 ≤ d) : ∀ (F : Nat) {l1 : Int32} {l4 : Int32} {l5 : Int32} {l6 : Int32} {l7 : Int32} {l8 : Int32} {l9 : Int32} {σ : St} {x : (Int32 × St)} (h : X10_tells_b284 F l1 l4 l5 l6 l7 l8 l9 σ = some x), Vw shM G p l e d s m args below meth c 10 A σ 284 [(0, .ref (G.2.1 0)), (1, .int l1), (4, .int l4), (5, .int l5), (6, .int l6), (7, .int l7), (8, .int l8), (9, .int l9)] [] (some (.int x.1)) x.2 := by
  intro F
  induction F with
  | zero =>
    intro l1 l4 l5 l6 l7 l8 l9 σ x h
    rw [X10_tells_b284] at h
    cases h
  | succ F ih =>
    intro l1 l4 l5 l6 l7 l8 l9 σ x h
    rw [X10_tells_b284] at h
    refine V_iload C 7 dX10_tells_284 rfl ?_
    refine V_iload C 5 dX10_tells_286 rfl ?_
    by_cases c5 : l7 < l9
    · rw [if_pos c5] at h
      refine V_icmp_gtT C 329 dX10_tells_288 (by decide) c5 ?_
      refine V_aload_n C 0 dX10_tells_329 rfl rfl ?_
      refine V_iload C 3 dX10_tells_330 rfl ?_
      refine V_iload C 2 dX10_tells_332 rfl ?_
      refine V_iload C 4 dX10_tells_334 rfl ?_
      obtain ⟨x336, h336, h⟩ := Option.bind_eq_some_iff.mp h
      refine V_callVv (As := [.int l5, .int l4, .int l6]) C (X10_lays_ok h336) mw_X10_lays.1 mw_X10_lays.2.1 mw_X10_lays.2.2 q10_100 oM_0.1 oM_0.2.1 (by decide) rfl rfl (by omega) rfl rfl rfl (Nat.le_of_ble_eq_true rfl) dX10_tells_336 ?_
      refine V_iload C 6 dX10_tells_339 rfl ?_
      cases h
      exact V_iret C rfl rfl dX10_tells_341
    · rw [if_neg c5] at h
      refine V_icmp_gtF C 329 dX10_tells_288 (by decide) c5 ?_
      refine V_aload_n C 0 dX10_tells_291 rfl rfl ?_
      refine V_iload C 3 dX10_tells_292 rfl ?_
      refine V_iload C 2 dX10_tells_294 rfl ?_
      refine V_iload C 7 dX10_tells_296 rfl ?_
      obtain ⟨x298, h298, h⟩ := Option.bind_eq_some_iff.mp h
      refine V_callVv (As := [.int l5, .int l4, .int l9]) C (X10_lays_ok h298) mw_X10_lays.1 mw_X10_lays.2.1 mw_X10_lays.2.2 q10_100 oM_0.1 oM_0.2.1 (by decide) rfl rfl (by omega) rfl rfl rfl (Nat.le_of_ble_eq_true rfl) dX10_tells_298 ?_
      refine V_iload C 6 dX10_tells_301 rfl ?_
      refine V_aload_n C 0 dX10_tells_303 rfl rfl ?_
      refine V_iload_n C 1 dX10_tells_304 rfl rfl ?_
      obtain ⟨x305, h305, h⟩ := Option.bind_eq_some_iff.mp h
      refine V_callVi (As := [.int l1]) C (X10_firstOther_ok h305) mw_X10_firstOther.1 mw_X10_firstOther.2.1 mw_X10_firstOther.2.2 q10_324 oM_0.1 oM_0.2.1 (by decide) rfl rfl (by omega) rfl rfl rfl (Nat.le_of_ble_eq_true rfl) dX10_tells_305 ?_
      refine V_iconst C (w := (-1)) dX10_tells_308 (by decide) ?_
      by_cases c6 : x305.1 = (-1)
      · rw [if_pos c6] at h
        refine V_icmp_neF C 316 dX10_tells_309 (by decide) c6 ?_
        refine V_iconst C (w := 1) dX10_tells_312 (by decide) ?_
        refine V_goto C 317 dX10_tells_313 (by decide) ?_
        refine V_sub (lv' := [(0, .ref (G.2.1 0)), (1, .int l1), (4, .int l4), (5, .int l5), (6, .int l6), (7, .int l7), (9, .int l9)]) [0, 1, 2, 3, 4, 5, 7] rfl ?_
        exact X10_tells_b317_ok C hd (fun h => ih h) h
      · rw [if_neg c6] at h
        refine V_icmp_neT C 316 dX10_tells_309 (by decide) c6 ?_
        refine V_iconst C (w := 0) dX10_tells_316 (by decide) ?_
        refine V_sub (lv' := [(0, .ref (G.2.1 0)), (1, .int l1), (4, .int l4), (5, .int l5), (6, .int l6), (7, .int l7), (9, .int l9)]) [0, 1, 2, 3, 4, 5, 7] rfl ?_
        exact X10_tells_b317_ok C hd (fun h => ih h) h
def X10_tells_b276 (l1 : Int32) (l4 : Int32) (l5 : Int32) (l6 : Int32) (s0 : Int32) (σ : St) : Option (Int32 × St) := X10_tells_b284 FU l1 l4 l5 l6 s0 0 0 σ
set_option maxRecDepth 100000 in
set_option maxHeartbeats 4000000 in
theorem X10_tells_b276_ok {G : Gx} {p : Program} {l : Launch} {e : Env} {d : Nat} {s : State} {m : MethodId} {args : Array Value} {below : List Frame} {meth : Method} {c : Code} {A : Nat → Prop} (C : OK shM G p s m args meth c RX10 cX10_tells 10 (some FieldType.int) A) (hd : 74 ≤ d) {l1 : Int32} {l4 : Int32} {l5 : Int32} {l6 : Int32} {s0 : Int32} {σ : St} {x : (Int32 × St)} (h : X10_tells_b276 l1 l4 l5 l6 s0 σ = some x) : Vw shM G p l e d s m args below meth c 10 A σ 276 [(0, .ref (G.2.1 0)), (1, .int l1), (4, .int l4), (5, .int l5), (6, .int l6)] [.int s0] (some (.int x.1)) x.2 := by
  unfold X10_tells_b276 at h
  refine V_istore C (lv' := [(7, .int s0), (0, .ref (G.2.1 0)), (1, .int l1), (4, .int l4), (5, .int l5), (6, .int l6)]) dX10_tells_276 (by decide) rfl ?_
  refine V_iconst C (w := 0) dX10_tells_278 (by decide) ?_
  refine V_istore C (lv' := [(8, .int 0), (7, .int s0), (0, .ref (G.2.1 0)), (1, .int l1), (4, .int l4), (5, .int l5), (6, .int l6)]) dX10_tells_279 (by decide) rfl ?_
  refine V_iconst C (w := 0) dX10_tells_281 (by decide) ?_
  refine V_istore C (lv' := [(9, .int 0), (8, .int 0), (7, .int s0), (0, .ref (G.2.1 0)), (1, .int l1), (4, .int l4), (5, .int l5), (6, .int l6)]) dX10_tells_282 (by decide) rfl ?_
  refine V_sub (lv' := [(0, .ref (G.2.1 0)), (1, .int l1), (4, .int l4), (5, .int l5), (6, .int l6), (7, .int s0), (8, .int 0), (9, .int 0)]) [3, 4, 5, 6, 7, 2, 1, 0] rfl ?_
  exact X10_tells_b284_ok C hd FU h
def X10_tells_b242 (l1 : Int32) (l4 : Int32) (l5 : Int32) (s0 : Int32) (σ : St) : Option (Int32 × St) := if l5 = 7 then (X10_tells_b276 l1 l4 l5 s0 ((σ.1 0 3) - 1) σ) else (if l5 = 6 then (X10_tells_b276 l1 l4 l5 s0 5 σ) else ((X10_mostOf l5).bind (fun x273 => X10_tells_b276 l1 l4 l5 s0 x273 σ)))
set_option maxRecDepth 100000 in
set_option maxHeartbeats 4000000 in
theorem X10_tells_b242_ok {G : Gx} {p : Program} {l : Launch} {e : Env} {d : Nat} {s : State} {m : MethodId} {args : Array Value} {below : List Frame} {meth : Method} {c : Code} {A : Nat → Prop} (C : OK shM G p s m args meth c RX10 cX10_tells 10 (some FieldType.int) A) (hd : 74 ≤ d) {l1 : Int32} {l4 : Int32} {l5 : Int32} {s0 : Int32} {σ : St} {x : (Int32 × St)} (h : X10_tells_b242 l1 l4 l5 s0 σ = some x) : Vw shM G p l e d s m args below meth c 10 A σ 242 [(0, .ref (G.2.1 0)), (1, .int l1), (4, .int l4), (5, .int l5)] [.int s0] (some (.int x.1)) x.2 := by
  unfold X10_tells_b242 at h
  refine V_istore C (lv' := [(6, .int s0), (0, .ref (G.2.1 0)), (1, .int l1), (4, .int l4), (5, .int l5)]) dX10_tells_242 (by decide) rfl ?_
  refine V_iload C 4 dX10_tells_244 rfl ?_
  refine V_bipush C (w := 7) dX10_tells_246 (by decide) ?_
  by_cases c7 : l5 = 7
  · rw [if_pos c7] at h
    refine V_icmp_neF C 260 dX10_tells_248 (by decide) c7 ?_
    refine V_aload_n C 1 dX10_tells_251 rfl rfl ?_
    refine fg10_76 C oM_0 dX10_tells_252 ?_
    refine V_iconst C (w := 1) dX10_tells_255 (by decide) ?_
    refine V_isub C dX10_tells_256 ?_
    refine V_goto C 276 dX10_tells_257 (by decide) ?_
    refine V_sub (lv' := [(0, .ref (G.2.1 0)), (1, .int l1), (4, .int l4), (5, .int l5), (6, .int s0)]) [1, 2, 3, 4, 0] rfl ?_
    exact X10_tells_b276_ok C hd h
  · rw [if_neg c7] at h
    refine V_icmp_neT C 260 dX10_tells_248 (by decide) c7 ?_
    refine V_iload C 4 dX10_tells_260 rfl ?_
    refine V_bipush C (w := 6) dX10_tells_262 (by decide) ?_
    by_cases c8 : l5 = 6
    · rw [if_pos c8] at h
      refine V_icmp_neF C 271 dX10_tells_264 (by decide) c8 ?_
      refine V_iconst C (w := 5) dX10_tells_267 (by decide) ?_
      refine V_goto C 276 dX10_tells_268 (by decide) ?_
      refine V_sub (lv' := [(0, .ref (G.2.1 0)), (1, .int l1), (4, .int l4), (5, .int l5), (6, .int s0)]) [1, 2, 3, 4, 0] rfl ?_
      exact X10_tells_b276_ok C hd h
    · rw [if_neg c8] at h
      refine V_icmp_neT C 271 dX10_tells_264 (by decide) c8 ?_
      refine V_iload C 4 dX10_tells_271 rfl ?_
      obtain ⟨x273, h273, h⟩ := Option.bind_eq_some_iff.mp h
      refine V_callSi (As := [.int l5]) C (X10_mostOf_ok h273) mw_X10_mostOf.1 mw_X10_mostOf.2 q10_92 (by omega) rfl rfl rfl (Nat.le_of_ble_eq_true rfl) dX10_tells_273 ?_
      refine V_sub (lv' := [(0, .ref (G.2.1 0)), (1, .int l1), (4, .int l4), (5, .int l5), (6, .int s0)]) [1, 2, 3, 4, 0] rfl ?_
      exact X10_tells_b276_ok C hd h
def X10_tells_b218 (l1 : Int32) (l4 : Int32) (s0 : Int32) (σ : St) : Option (Int32 × St) := if s0 = 7 then (X10_tells_b242 l1 l4 s0 (σ.1 0 4) σ) else ((X10_told l4 s0 σ).bind (fun x239 => X10_tells_b242 l1 l4 s0 x239.1 x239.2))
set_option maxRecDepth 100000 in
set_option maxHeartbeats 4000000 in
theorem X10_tells_b218_ok {G : Gx} {p : Program} {l : Launch} {e : Env} {d : Nat} {s : State} {m : MethodId} {args : Array Value} {below : List Frame} {meth : Method} {c : Code} {A : Nat → Prop} (C : OK shM G p s m args meth c RX10 cX10_tells 10 (some FieldType.int) A) (hd : 74 ≤ d) {l1 : Int32} {l4 : Int32} {s0 : Int32} {σ : St} {x : (Int32 × St)} (h : X10_tells_b218 l1 l4 s0 σ = some x) : Vw shM G p l e d s m args below meth c 10 A σ 218 [(0, .ref (G.2.1 0)), (1, .int l1), (4, .int l4)] [.int s0] (some (.int x.1)) x.2 := by
  unfold X10_tells_b218 at h
  refine V_istore C (lv' := [(5, .int s0), (0, .ref (G.2.1 0)), (1, .int l1), (4, .int l4)]) dX10_tells_218 (by decide) rfl ?_
  refine V_iload C 0 dX10_tells_220 rfl ?_
  refine V_bipush C (w := 7) dX10_tells_222 (by decide) ?_
  by_cases c9 : s0 = 7
  · rw [if_pos c9] at h
    refine V_icmp_neF C 234 dX10_tells_224 (by decide) c9 ?_
    refine V_aload_n C 1 dX10_tells_227 rfl rfl ?_
    refine fg10_104 C oM_0 dX10_tells_228 ?_
    refine V_goto C 242 dX10_tells_231 (by decide) ?_
    refine V_sub (lv' := [(0, .ref (G.2.1 0)), (1, .int l1), (4, .int l4), (5, .int s0)]) [1, 2, 3, 0] rfl ?_
    exact X10_tells_b242_ok C hd h
  · rw [if_neg c9] at h
    refine V_icmp_neT C 234 dX10_tells_224 (by decide) c9 ?_
    refine V_aload_n C 1 dX10_tells_234 rfl rfl ?_
    refine V_iload C 3 dX10_tells_235 rfl ?_
    refine V_iload C 0 dX10_tells_237 rfl ?_
    obtain ⟨x239, h239, h⟩ := Option.bind_eq_some_iff.mp h
    refine V_callVi (As := [.int l4, .int s0]) C (X10_told_ok h239) mw_X10_told.1 mw_X10_told.2.1 mw_X10_told.2.2 q10_96 oM_0.1 oM_0.2.1 (by decide) rfl rfl (by omega) rfl rfl rfl (Nat.le_of_ble_eq_true rfl) dX10_tells_239 ?_
    refine V_sub (lv' := [(0, .ref (G.2.1 0)), (1, .int l1), (4, .int l4), (5, .int s0)]) [1, 2, 3, 0] rfl ?_
    exact X10_tells_b242_ok C hd h
def X10_tells_b57 (l1 : Int32) (l2 : Int32) (σ : St) : Option (Int32 × St) := if ob l1 4 then none else (if (σ.1 15 (l1).toNatClampNeg) = 0 then (some ((-11), σ)) else (if ob l1 4 then none else (if (σ.1 17 (l1).toNatClampNeg) = (σ.1 0 11) then (if l2 = 3 then ((X10_firstOther l1 σ).bind (fun x92 => some (x92.1, x92.2))) else (if 3 ≤ l2 then (if l2 = 4 then (X10_tells_b218 l1 (l2 - l2 / 10 * 10) 7 σ) else (if 20 ≤ l2 then (if 30 ≤ l2 then (X10_tells_b218 l1 (l2 - l2 / 10 * 10) 4 σ) else (X10_tells_b218 l1 (l2 - l2 / 10 * 10) 3 σ)) else (X10_tells_b218 l1 (l2 - l2 / 10 * 10) 6 σ))) else (X10_tells_b114 FU l1 l2 0 (up (up σ 0 35 0) 0 36 0)))) else (some ((-2), σ)))))
set_option maxRecDepth 100000 in
set_option maxHeartbeats 4000000 in
theorem X10_tells_b57_ok {G : Gx} {p : Program} {l : Launch} {e : Env} {d : Nat} {s : State} {m : MethodId} {args : Array Value} {below : List Frame} {meth : Method} {c : Code} {A : Nat → Prop} (C : OK shM G p s m args meth c RX10 cX10_tells 10 (some FieldType.int) A) (hd : 74 ≤ d) {l1 : Int32} {l2 : Int32} {σ : St} {x : (Int32 × St)} (h : X10_tells_b57 l1 l2 σ = some x) : Vw shM G p l e d s m args below meth c 10 A σ 57 [(0, .ref (G.2.1 0)), (1, .int l1), (2, .int l2)] [] (some (.int x.1)) x.2 := by
  unfold X10_tells_b57 at h
  refine V_aload_n C 0 dX10_tells_57 rfl rfl ?_
  refine fg10_60 (r := 15) C oM_0 rfl dX10_tells_58 ?_
  refine V_iload_n C 1 dX10_tells_61 rfl rfl ?_
  have g10 : ¬ (ob l1 4) := fun g9 => by rw [if_pos g9] at h; cases h
  rw [if_neg g10] at h
  refine V_zaldO C oM_15 g10 dX10_tells_62 ?_
  by_cases c11 : (σ.1 15 (l1).toNatClampNeg) = 0
  · rw [if_pos c11] at h
    refine V_if_neF C 69 dX10_tells_63 (by decide) c11 ?_
    refine V_bipush C (w := (-11)) dX10_tells_66 (by decide) ?_
    cases h
    exact V_iret C rfl rfl dX10_tells_68
  · rw [if_neg c11] at h
    refine V_if_neT C 69 dX10_tells_63 (by decide) c11 ?_
    refine V_aload_n C 0 dX10_tells_69 rfl rfl ?_
    refine fg10_66 (r := 17) C oM_0 rfl dX10_tells_70 ?_
    refine V_iload_n C 1 dX10_tells_73 rfl rfl ?_
    have g12 : ¬ (ob l1 4) := fun g9 => by rw [if_pos g9] at h; cases h
    rw [if_neg g12] at h
    refine V_ialdO C oM_17 g12 dX10_tells_74 ?_
    refine V_aload_n C 0 dX10_tells_75 rfl rfl ?_
    refine fg10_79 C oM_0 dX10_tells_76 ?_
    by_cases c13 : (σ.1 17 (l1).toNatClampNeg) = (σ.1 0 11)
    · rw [if_pos c13] at h
      refine V_icmp_eqT C 85 dX10_tells_79 (by decide) c13 ?_
      refine V_iload_n C 2 dX10_tells_85 rfl rfl ?_
      refine V_iconst C (w := 3) dX10_tells_86 (by decide) ?_
      by_cases c14 : l2 = 3
      · rw [if_pos c14] at h
        refine V_icmp_neF C 96 dX10_tells_87 (by decide) c14 ?_
        refine V_aload_n C 0 dX10_tells_90 rfl rfl ?_
        refine V_iload_n C 1 dX10_tells_91 rfl rfl ?_
        obtain ⟨x92, h92, h⟩ := Option.bind_eq_some_iff.mp h
        refine V_callVi (As := [.int l1]) C (X10_firstOther_ok h92) mw_X10_firstOther.1 mw_X10_firstOther.2.1 mw_X10_firstOther.2.2 q10_324 oM_0.1 oM_0.2.1 (by decide) rfl rfl (by omega) rfl rfl rfl (Nat.le_of_ble_eq_true rfl) dX10_tells_92 ?_
        cases h
        exact V_iret C rfl rfl dX10_tells_95
      · rw [if_neg c14] at h
        refine V_icmp_neT C 96 dX10_tells_87 (by decide) c14 ?_
        refine V_iload_n C 2 dX10_tells_96 rfl rfl ?_
        refine V_iconst C (w := 3) dX10_tells_97 (by decide) ?_
        by_cases c15 : 3 ≤ l2
        · rw [if_pos c15] at h
          refine V_icmp_geT C 180 dX10_tells_98 (by decide) c15 ?_
          refine V_iload_n C 2 dX10_tells_180 rfl rfl ?_
          refine V_bipush C (w := 10) dX10_tells_181 (by decide) ?_
          refine V_irem C dX10_tells_183 (by decide) ?_
          refine V_istore C (lv' := [(4, .int (l2 - l2 / 10 * 10)), (0, .ref (G.2.1 0)), (1, .int l1), (2, .int l2)]) dX10_tells_184 (by decide) rfl ?_
          refine V_iload_n C 3 dX10_tells_186 rfl rfl ?_
          refine V_iconst C (w := 4) dX10_tells_187 (by decide) ?_
          by_cases c16 : l2 = 4
          · rw [if_pos c16] at h
            refine V_icmp_neF C 196 dX10_tells_188 (by decide) c16 ?_
            refine V_bipush C (w := 7) dX10_tells_191 (by decide) ?_
            refine V_goto C 218 dX10_tells_193 (by decide) ?_
            refine V_sub (lv' := [(0, .ref (G.2.1 0)), (1, .int l1), (4, .int (l2 - l2 / 10 * 10))]) [1, 2, 0] rfl ?_
            exact X10_tells_b218_ok C hd h
          · rw [if_neg c16] at h
            refine V_icmp_neT C 196 dX10_tells_188 (by decide) c16 ?_
            refine V_iload_n C 3 dX10_tells_196 rfl rfl ?_
            refine V_bipush C (w := 20) dX10_tells_197 (by decide) ?_
            by_cases c17 : 20 ≤ l2
            · rw [if_pos c17] at h
              refine V_icmp_geT C 207 dX10_tells_199 (by decide) c17 ?_
              refine V_iload_n C 3 dX10_tells_207 rfl rfl ?_
              refine V_bipush C (w := 30) dX10_tells_208 (by decide) ?_
              by_cases c18 : 30 ≤ l2
              · rw [if_pos c18] at h
                refine V_icmp_geT C 217 dX10_tells_210 (by decide) c18 ?_
                refine V_iconst C (w := 4) dX10_tells_217 (by decide) ?_
                refine V_sub (lv' := [(0, .ref (G.2.1 0)), (1, .int l1), (4, .int (l2 - l2 / 10 * 10))]) [1, 2, 0] rfl ?_
                exact X10_tells_b218_ok C hd h
              · rw [if_neg c18] at h
                refine V_icmp_geF C 217 dX10_tells_210 (by decide) c18 ?_
                refine V_iconst C (w := 3) dX10_tells_213 (by decide) ?_
                refine V_goto C 218 dX10_tells_214 (by decide) ?_
                refine V_sub (lv' := [(0, .ref (G.2.1 0)), (1, .int l1), (4, .int (l2 - l2 / 10 * 10))]) [1, 2, 0] rfl ?_
                exact X10_tells_b218_ok C hd h
            · rw [if_neg c17] at h
              refine V_icmp_geF C 207 dX10_tells_199 (by decide) c17 ?_
              refine V_bipush C (w := 6) dX10_tells_202 (by decide) ?_
              refine V_goto C 218 dX10_tells_204 (by decide) ?_
              refine V_sub (lv' := [(0, .ref (G.2.1 0)), (1, .int l1), (4, .int (l2 - l2 / 10 * 10))]) [1, 2, 0] rfl ?_
              exact X10_tells_b218_ok C hd h
        · rw [if_neg c15] at h
          refine V_icmp_geF C 180 dX10_tells_98 (by decide) c15 ?_
          refine V_aload_n C 0 dX10_tells_101 rfl rfl ?_
          refine V_iconst C (w := 0) dX10_tells_102 (by decide) ?_
          refine fp10_310 C oM_0 dX10_tells_103 ?_
          refine V_aload_n C 0 dX10_tells_106 rfl rfl ?_
          refine V_iconst C (w := 0) dX10_tells_107 (by decide) ?_
          refine fp10_313 C oM_0 dX10_tells_108 ?_
          refine V_iconst C (w := 0) dX10_tells_111 (by decide) ?_
          refine V_istore C (lv' := [(4, .int 0), (0, .ref (G.2.1 0)), (1, .int l1), (2, .int l2)]) dX10_tells_112 (by decide) rfl ?_
          refine V_sub (lv' := [(0, .ref (G.2.1 0)), (1, .int l1), (2, .int l2), (4, .int 0)]) [1, 2, 3, 0] rfl ?_
          exact X10_tells_b114_ok C hd FU h
    · rw [if_neg c13] at h
      refine V_icmp_eqF C 85 dX10_tells_79 (by decide) c13 ?_
      refine V_bipush C (w := (-2)) dX10_tells_82 (by decide) ?_
      cases h
      exact V_iret C rfl rfl dX10_tells_84
def X10_tells_b30 (l1 : Int32) (l2 : Int32) (s0 : Int32) (σ : St) : Option (Int32 × St) := (X10_isSheet l1).bind (fun x32 => if x32 = 0 then (some ((-2), σ)) else ((X10_in (Int32.toInt64 l2) 0 4).bind (fun x44 => if x44 = 0 then (if s0 = 0 then (some ((-2), σ)) else (X10_tells_b57 l1 l2 σ)) else (X10_tells_b57 l1 l2 σ))))
set_option maxRecDepth 100000 in
set_option maxHeartbeats 4000000 in
theorem X10_tells_b30_ok {G : Gx} {p : Program} {l : Launch} {e : Env} {d : Nat} {s : State} {m : MethodId} {args : Array Value} {below : List Frame} {meth : Method} {c : Code} {A : Nat → Prop} (C : OK shM G p s m args meth c RX10 cX10_tells 10 (some FieldType.int) A) (hd : 74 ≤ d) {l1 : Int32} {l2 : Int32} {s0 : Int32} {σ : St} {x : (Int32 × St)} (h : X10_tells_b30 l1 l2 s0 σ = some x) : Vw shM G p l e d s m args below meth c 10 A σ 30 [(0, .ref (G.2.1 0)), (1, .int l1), (2, .int l2)] [.int s0] (some (.int x.1)) x.2 := by
  unfold X10_tells_b30 at h
  refine V_istore_n C (lv' := [(3, .int s0), (0, .ref (G.2.1 0)), (1, .int l1), (2, .int l2)]) dX10_tells_30 rfl (by decide) rfl ?_
  refine V_iload_n C 2 dX10_tells_31 rfl rfl ?_
  obtain ⟨x32, h32, h⟩ := Option.bind_eq_some_iff.mp h
  refine V_callSi (As := [.int l1]) C (X10_isSheet_ok h32) mw_X10_isSheet.1 mw_X10_isSheet.2 q10_256 (by omega) rfl rfl rfl (Nat.le_of_ble_eq_true rfl) dX10_tells_32 ?_
  by_cases c19 : x32 = 0
  · rw [if_pos c19] at h
    refine V_if_eqT C 54 dX10_tells_35 (by decide) c19 ?_
    refine V_bipush C (w := (-2)) dX10_tells_54 (by decide) ?_
    cases h
    exact V_iret C rfl rfl dX10_tells_56
  · rw [if_neg c19] at h
    refine V_if_eqF C 54 dX10_tells_35 (by decide) c19 ?_
    refine V_iload_n C 3 dX10_tells_38 rfl rfl ?_
    refine V_i2l C dX10_tells_39 ?_
    refine V_lconst C (w := 0) dX10_tells_40 (by decide) ?_
    refine V_ldc2 C (w := 4) dX10_tells_41 qk10_322 ?_
    obtain ⟨x44, h44, h⟩ := Option.bind_eq_some_iff.mp h
    refine V_callSi (As := [.long (Int32.toInt64 l2), .long 0, .long 4]) C (X10_in_ok h44) mw_X10_in.1 mw_X10_in.2 q10_82 (by omega) rfl rfl rfl (Nat.le_of_ble_eq_true rfl) dX10_tells_44 ?_
    by_cases c20 : x44 = 0
    · rw [if_pos c20] at h
      refine V_if_neF C 57 dX10_tells_47 (by decide) c20 ?_
      refine V_iload_n C 0 dX10_tells_50 rfl rfl ?_
      by_cases c21 : s0 = 0
      · rw [if_pos c21] at h
        refine V_if_neF C 57 dX10_tells_51 (by decide) c21 ?_
        refine V_bipush C (w := (-2)) dX10_tells_54 (by decide) ?_
        cases h
        exact V_iret C rfl rfl dX10_tells_56
      · rw [if_neg c21] at h
        refine V_if_neT C 57 dX10_tells_51 (by decide) c21 ?_
        refine V_sub (lv' := [(0, .ref (G.2.1 0)), (1, .int l1), (2, .int l2)]) [1, 2, 3] rfl ?_
        exact X10_tells_b57_ok C hd h
    · rw [if_neg c20] at h
      refine V_if_neT C 57 dX10_tells_47 (by decide) c20 ?_
      refine V_sub (lv' := [(0, .ref (G.2.1 0)), (1, .int l1), (2, .int l2)]) [1, 2, 3] rfl ?_
      exact X10_tells_b57_ok C hd h
def X10_tells (l1 : Int32) (l2 : Int32) (σ : St) : Option (Int32 × St) := (X10_in (Int32.toInt64 l2) 10 39).bind (fun x8 => if x8 = 0 then (X10_tells_b30 l1 l2 0 σ) else ((X10_isOne (l2 - l2 / 10 * 10) σ).bind (fun x19 => if x19 = 0 then (X10_tells_b30 l1 l2 0 σ) else (X10_tells_b30 l1 l2 1 σ))))
set_option maxRecDepth 100000 in
set_option maxHeartbeats 4000000 in
theorem X10_tells_ok {l1 : Int32} {l2 : Int32} {σ : St} {x : (Int32 × St)} (h : X10_tells l1 l2 σ = some x) : Ct shM (74) yX10_tells cX10_tells 10 (some FieldType.int) (fun G => [.ref (G.2.1 0), .int l1, .int l2]) σ (fun G => some (.int x.1)) x.2 := by
  refine Ct.of mw_X10_tells.1 (by decide +kernel) (fun G => Nat.le_of_ble_eq_true rfl) (fun G p l e d s m args below meth c A hd C => ?_)
  refine (?_ : Vw shM G p l e d s m args below meth c 10 A σ 0 [(0, .ref (G.2.1 0)), (1, .int l1), (2, .int l2)] [] (some (.int x.1)) x.2)
  unfold X10_tells at h
  refine V_iload_n C 2 dX10_tells_0 rfl rfl ?_
  refine V_i2l C dX10_tells_1 ?_
  refine V_ldc2 C (w := 10) dX10_tells_2 qk10_162 ?_
  refine V_ldc2 C (w := 39) dX10_tells_5 qk10_320 ?_
  obtain ⟨x8, h8, h⟩ := Option.bind_eq_some_iff.mp h
  refine V_callSi (As := [.long (Int32.toInt64 l2), .long 10, .long 39]) C (X10_in_ok h8) mw_X10_in.1 mw_X10_in.2 q10_82 (by omega) rfl rfl rfl (Nat.le_of_ble_eq_true rfl) dX10_tells_8 ?_
  by_cases c22 : x8 = 0
  · rw [if_pos c22] at h
    refine V_if_eqT C 29 dX10_tells_11 (by decide) c22 ?_
    refine V_iconst C (w := 0) dX10_tells_29 (by decide) ?_
    exact X10_tells_b30_ok C hd h
  · rw [if_neg c22] at h
    refine V_if_eqF C 29 dX10_tells_11 (by decide) c22 ?_
    refine V_aload_n C 0 dX10_tells_14 rfl rfl ?_
    refine V_iload_n C 2 dX10_tells_15 rfl rfl ?_
    refine V_bipush C (w := 10) dX10_tells_16 (by decide) ?_
    refine V_irem C dX10_tells_18 (by decide) ?_
    obtain ⟨x19, h19, h⟩ := Option.bind_eq_some_iff.mp h
    refine V_callVi (As := [.int (l2 - l2 / 10 * 10)]) C (X10_isOne_ok h19) mw_X10_isOne.1 mw_X10_isOne.2.1 mw_X10_isOne.2.2 q10_88 oM_0.1 oM_0.2.1 (by decide) rfl rfl (by omega) rfl rfl rfl (Nat.le_of_ble_eq_true rfl) dX10_tells_19 ?_
    by_cases c23 : x19 = 0
    · rw [if_pos c23] at h
      refine V_if_eqT C 29 dX10_tells_22 (by decide) c23 ?_
      refine V_iconst C (w := 0) dX10_tells_29 (by decide) ?_
      exact X10_tells_b30_ok C hd h
    · rw [if_neg c23] at h
      refine V_if_eqF C 29 dX10_tells_22 (by decide) c23 ?_
      refine V_iconst C (w := 1) dX10_tells_25 (by decide) ?_
      refine V_goto C 30 dX10_tells_26 (by decide) ?_
      exact X10_tells_b30_ok C hd h
def X10_sheet_b77 : Nat → Int32 → Int32 → Int32 → Int32 → St → Option (Int32 × St)
  | 0, _, _, _, _, _ => none
  | F + 1, l1, l2, l3, l4, σ => if l3 ≤ l4 then (some (1, σ)) else (if l2 < 0 then (some (1, σ)) else (if ob ((40 * l1) + l4) 160 then none else (X10_sheet_b77 F l1 l2 l3 (l4 + 1) (up σ 18 (((40 * l1) + l4)).toNatClampNeg 0))))
set_option maxRecDepth 100000 in
set_option maxHeartbeats 4000000 in
theorem X10_sheet_b77_ok {G : Gx} {p : Program} {l : Launch} {e : Env} {d : Nat} {s : State} {m : MethodId} {args : Array Value} {below : List Frame} {meth : Method} {c : Code} {A : Nat → Prop} (C : OK shM G p s m args meth c RX10 cX10_sheet 5 (some FieldType.int) A) (hd : 3 ≤ d) : ∀ (F : Nat) {l1 : Int32} {l2 : Int32} {l3 : Int32} {l4 : Int32} {σ : St} {x : (Int32 × St)} (h : X10_sheet_b77 F l1 l2 l3 l4 σ = some x), Vw shM G p l e d s m args below meth c 5 A σ 77 [(0, .ref (G.2.1 0)), (1, .int l1), (2, .int l2), (3, .int l3), (4, .int l4)] [] (some (.int x.1)) x.2 := by
  intro F
  induction F with
  | zero =>
    intro l1 l2 l3 l4 σ x h
    rw [X10_sheet_b77] at h
    cases h
  | succ F ih =>
    intro l1 l2 l3 l4 σ x h
    rw [X10_sheet_b77] at h
    refine V_iload C 4 dX10_sheet_77 rfl ?_
    refine V_iload_n C 3 dX10_sheet_79 rfl rfl ?_
    by_cases c1 : l3 ≤ l4
    · rw [if_pos c1] at h
      refine V_icmp_geT C 106 dX10_sheet_80 (by decide) c1 ?_
      refine V_iconst C (w := 1) dX10_sheet_106 (by decide) ?_
      cases h
      exact V_iret C rfl rfl dX10_sheet_107
    · rw [if_neg c1] at h
      refine V_icmp_geF C 106 dX10_sheet_80 (by decide) c1 ?_
      refine V_iload_n C 2 dX10_sheet_83 rfl rfl ?_
      by_cases c2 : l2 < 0
      · rw [if_pos c2] at h
        refine V_if_ltT C 106 dX10_sheet_84 (by decide) c2 ?_
        refine V_iconst C (w := 1) dX10_sheet_106 (by decide) ?_
        cases h
        exact V_iret C rfl rfl dX10_sheet_107
      · rw [if_neg c2] at h
        refine V_if_ltF C 106 dX10_sheet_84 (by decide) c2 ?_
        refine V_aload_n C 0 dX10_sheet_87 rfl rfl ?_
        refine fg10_69 (r := 18) C oM_0 rfl dX10_sheet_88 ?_
        refine V_bipush C (w := 40) dX10_sheet_91 (by decide) ?_
        refine V_iload_n C 1 dX10_sheet_93 rfl rfl ?_
        refine V_imul C dX10_sheet_94 ?_
        refine V_iload C 4 dX10_sheet_95 rfl ?_
        refine V_iadd C dX10_sheet_97 ?_
        refine V_iconst C (w := 0) dX10_sheet_98 (by decide) ?_
        have g3 : ¬ (ob ((40 * l1) + l4) 160) := fun g9 => by rw [if_pos g9] at h; cases h
        rw [if_neg g3] at h
        refine V_iastO C oM_18 g3 dX10_sheet_99 ?_
        refine V_iinc C (w := (l4 + 1)) (lv' := [(4, .int (l4 + 1)), (0, .ref (G.2.1 0)), (1, .int l1), (2, .int l2), (3, .int l3)]) 4 dX10_sheet_100 rfl (congrArg (l4 + ·) (show Int32.ofInt 1 = 1 by decide)) (by decide) rfl ?_
        refine V_goto C 77 dX10_sheet_103 (by decide) ?_
        refine V_sub (lv' := [(0, .ref (G.2.1 0)), (1, .int l1), (2, .int l2), (3, .int l3), (4, .int (l4 + 1))]) [1, 2, 3, 4, 0] rfl ?_
        exact ih h
def X10_sheet_b59 (l1 : Int32) (l2 : Int32) (l3 : Int32) (s0 : Int32) (s1 : Int32) (σ : St) : Option (Int32 × St) := if ob s1 4 then none else (if ob l1 4 then none else (if ob l1 4 then none else (X10_sheet_b77 FU l1 l2 l3 0 (up (up (up σ 15 (s1).toNatClampNeg (vp_nar .boolean s0)) 16 (l1).toNatClampNeg l2) 17 (l1).toNatClampNeg l3))))
set_option maxRecDepth 100000 in
set_option maxHeartbeats 4000000 in
theorem X10_sheet_b59_ok {G : Gx} {p : Program} {l : Launch} {e : Env} {d : Nat} {s : State} {m : MethodId} {args : Array Value} {below : List Frame} {meth : Method} {c : Code} {A : Nat → Prop} (C : OK shM G p s m args meth c RX10 cX10_sheet 5 (some FieldType.int) A) (hd : 3 ≤ d) {l1 : Int32} {l2 : Int32} {l3 : Int32} {s0 : Int32} {s1 : Int32} {σ : St} {x : (Int32 × St)} (h : X10_sheet_b59 l1 l2 l3 s0 s1 σ = some x) : Vw shM G p l e d s m args below meth c 5 A σ 59 [(0, .ref (G.2.1 0)), (1, .int l1), (2, .int l2), (3, .int l3)] [.int s0, .int s1, .ref (G.2.1 15)] (some (.int x.1)) x.2 := by
  unfold X10_sheet_b59 at h
  have g4 : ¬ (ob s1 4) := fun g9 => by rw [if_pos g9] at h; cases h
  rw [if_neg g4] at h
  refine V_zastO C oM_15 g4 dX10_sheet_59 ?_
  refine V_aload_n C 0 dX10_sheet_60 rfl rfl ?_
  refine fg10_63 (r := 16) C oM_0 rfl dX10_sheet_61 ?_
  refine V_iload_n C 1 dX10_sheet_64 rfl rfl ?_
  refine V_iload_n C 2 dX10_sheet_65 rfl rfl ?_
  have g5 : ¬ (ob l1 4) := fun g9 => by rw [if_pos g9] at h; cases h
  rw [if_neg g5] at h
  refine V_iastO C oM_16 g5 dX10_sheet_66 ?_
  refine V_aload_n C 0 dX10_sheet_67 rfl rfl ?_
  refine fg10_66 (r := 17) C oM_0 rfl dX10_sheet_68 ?_
  refine V_iload_n C 1 dX10_sheet_71 rfl rfl ?_
  refine V_iload_n C 3 dX10_sheet_72 rfl rfl ?_
  have g6 : ¬ (ob l1 4) := fun g9 => by rw [if_pos g9] at h; cases h
  rw [if_neg g6] at h
  refine V_iastO C oM_17 g6 dX10_sheet_73 ?_
  refine V_iconst C (w := 0) dX10_sheet_74 (by decide) ?_
  refine V_istore C (lv' := [(4, .int 0), (0, .ref (G.2.1 0)), (1, .int l1), (2, .int l2), (3, .int l3)]) dX10_sheet_75 (by decide) rfl ?_
  refine V_sub (lv' := [(0, .ref (G.2.1 0)), (1, .int l1), (2, .int l2), (3, .int l3), (4, .int 0)]) [1, 2, 3, 4, 0] rfl ?_
  exact X10_sheet_b77_ok C hd FU h
def X10_sheet_b45 (l1 : Int32) (l2 : Int32) (l3 : Int32) (σ : St) : Option (Int32 × St) := if l2 < 0 then (X10_sheet_b59 l1 l2 l3 0 l1 σ) else (X10_sheet_b59 l1 l2 l3 1 l1 σ)
set_option maxRecDepth 100000 in
set_option maxHeartbeats 4000000 in
theorem X10_sheet_b45_ok {G : Gx} {p : Program} {l : Launch} {e : Env} {d : Nat} {s : State} {m : MethodId} {args : Array Value} {below : List Frame} {meth : Method} {c : Code} {A : Nat → Prop} (C : OK shM G p s m args meth c RX10 cX10_sheet 5 (some FieldType.int) A) (hd : 3 ≤ d) {l1 : Int32} {l2 : Int32} {l3 : Int32} {σ : St} {x : (Int32 × St)} (h : X10_sheet_b45 l1 l2 l3 σ = some x) : Vw shM G p l e d s m args below meth c 5 A σ 45 [(0, .ref (G.2.1 0)), (1, .int l1), (2, .int l2), (3, .int l3)] [] (some (.int x.1)) x.2 := by
  unfold X10_sheet_b45 at h
  refine V_aload_n C 0 dX10_sheet_45 rfl rfl ?_
  refine fg10_60 (r := 15) C oM_0 rfl dX10_sheet_46 ?_
  refine V_iload_n C 1 dX10_sheet_49 rfl rfl ?_
  refine V_iload_n C 2 dX10_sheet_50 rfl rfl ?_
  by_cases c7 : l2 < 0
  · rw [if_pos c7] at h
    refine V_if_ltT C 58 dX10_sheet_51 (by decide) c7 ?_
    refine V_iconst C (w := 0) dX10_sheet_58 (by decide) ?_
    exact X10_sheet_b59_ok C hd h
  · rw [if_neg c7] at h
    refine V_if_ltF C 58 dX10_sheet_51 (by decide) c7 ?_
    refine V_iconst C (w := 1) dX10_sheet_54 (by decide) ?_
    refine V_goto C 59 dX10_sheet_55 (by decide) ?_
    exact X10_sheet_b59_ok C hd h
def X10_sheet_b34 (l1 : Int32) (l2 : Int32) (l3 : Int32) (σ : St) : Option (Int32 × St) := if l2 < 0 then (X10_sheet_b45 l1 l2 l3 σ) else (if 0 ≤ l3 then (X10_sheet_b45 l1 l2 l3 σ) else (some ((-14), σ)))
set_option maxRecDepth 100000 in
set_option maxHeartbeats 4000000 in
theorem X10_sheet_b34_ok {G : Gx} {p : Program} {l : Launch} {e : Env} {d : Nat} {s : State} {m : MethodId} {args : Array Value} {below : List Frame} {meth : Method} {c : Code} {A : Nat → Prop} (C : OK shM G p s m args meth c RX10 cX10_sheet 5 (some FieldType.int) A) (hd : 3 ≤ d) {l1 : Int32} {l2 : Int32} {l3 : Int32} {σ : St} {x : (Int32 × St)} (h : X10_sheet_b34 l1 l2 l3 σ = some x) : Vw shM G p l e d s m args below meth c 5 A σ 34 [(0, .ref (G.2.1 0)), (1, .int l1), (2, .int l2), (3, .int l3)] [] (some (.int x.1)) x.2 := by
  unfold X10_sheet_b34 at h
  refine V_iload_n C 2 dX10_sheet_34 rfl rfl ?_
  by_cases c8 : l2 < 0
  · rw [if_pos c8] at h
    refine V_if_ltT C 45 dX10_sheet_35 (by decide) c8 ?_
    exact X10_sheet_b45_ok C hd h
  · rw [if_neg c8] at h
    refine V_if_ltF C 45 dX10_sheet_35 (by decide) c8 ?_
    refine V_iload_n C 3 dX10_sheet_38 rfl rfl ?_
    by_cases c9 : 0 ≤ l3
    · rw [if_pos c9] at h
      refine V_if_geT C 45 dX10_sheet_39 (by decide) c9 ?_
      exact X10_sheet_b45_ok C hd h
    · rw [if_neg c9] at h
      refine V_if_geF C 45 dX10_sheet_39 (by decide) c9 ?_
      refine V_bipush C (w := (-14)) dX10_sheet_42 (by decide) ?_
      cases h
      exact V_iret C rfl rfl dX10_sheet_44
def X10_sheet (l1 : Int32) (l2 : Int32) (l3 : Int32) (σ : St) : Option (Int32 × St) := (X10_isSheet l1).bind (fun x1 => if x1 = 0 then (some ((-2), σ)) else ((X10_in (Int32.toInt64 l2) (-1) 2).bind (fun x15 => if x15 = 0 then (some ((-2), σ)) else (if l2 < 0 then (X10_sheet_b34 l1 l2 l3 σ) else (if l3 ≤ 40 then (X10_sheet_b34 l1 l2 l3 σ) else (some ((-2), σ)))))))
set_option maxRecDepth 100000 in
set_option maxHeartbeats 4000000 in
theorem X10_sheet_ok {l1 : Int32} {l2 : Int32} {l3 : Int32} {σ : St} {x : (Int32 × St)} (h : X10_sheet l1 l2 l3 σ = some x) : Ct shM (3) yX10_sheet cX10_sheet 5 (some FieldType.int) (fun G => [.ref (G.2.1 0), .int l1, .int l2, .int l3]) σ (fun G => some (.int x.1)) x.2 := by
  refine Ct.of mw_X10_sheet.1 (by decide +kernel) (fun G => Nat.le_of_ble_eq_true rfl) (fun G p l e d s m args below meth c A hd C => ?_)
  refine (?_ : Vw shM G p l e d s m args below meth c 5 A σ 0 [(0, .ref (G.2.1 0)), (1, .int l1), (2, .int l2), (3, .int l3)] [] (some (.int x.1)) x.2)
  unfold X10_sheet at h
  refine V_iload_n C 1 dX10_sheet_0 rfl rfl ?_
  obtain ⟨x1, h1, h⟩ := Option.bind_eq_some_iff.mp h
  refine V_callSi (As := [.int l1]) C (X10_isSheet_ok h1) mw_X10_isSheet.1 mw_X10_isSheet.2 q10_256 (by omega) rfl rfl rfl (Nat.le_of_ble_eq_true rfl) dX10_sheet_1 ?_
  by_cases c10 : x1 = 0
  · rw [if_pos c10] at h
    refine V_if_eqT C 31 dX10_sheet_4 (by decide) c10 ?_
    refine V_bipush C (w := (-2)) dX10_sheet_31 (by decide) ?_
    cases h
    exact V_iret C rfl rfl dX10_sheet_33
  · rw [if_neg c10] at h
    refine V_if_eqF C 31 dX10_sheet_4 (by decide) c10 ?_
    refine V_iload_n C 2 dX10_sheet_7 rfl rfl ?_
    refine V_i2l C dX10_sheet_8 ?_
    refine V_ldc2 C (w := (-1)) dX10_sheet_9 qk10_349 ?_
    refine V_ldc2 C (w := 2) dX10_sheet_12 qk10_259 ?_
    obtain ⟨x15, h15, h⟩ := Option.bind_eq_some_iff.mp h
    refine V_callSi (As := [.long (Int32.toInt64 l2), .long (-1), .long 2]) C (X10_in_ok h15) mw_X10_in.1 mw_X10_in.2 q10_82 (by omega) rfl rfl rfl (Nat.le_of_ble_eq_true rfl) dX10_sheet_15 ?_
    by_cases c11 : x15 = 0
    · rw [if_pos c11] at h
      refine V_if_eqT C 31 dX10_sheet_18 (by decide) c11 ?_
      refine V_bipush C (w := (-2)) dX10_sheet_31 (by decide) ?_
      cases h
      exact V_iret C rfl rfl dX10_sheet_33
    · rw [if_neg c11] at h
      refine V_if_eqF C 31 dX10_sheet_18 (by decide) c11 ?_
      refine V_iload_n C 2 dX10_sheet_21 rfl rfl ?_
      by_cases c12 : l2 < 0
      · rw [if_pos c12] at h
        refine V_if_ltT C 34 dX10_sheet_22 (by decide) c12 ?_
        exact X10_sheet_b34_ok C hd h
      · rw [if_neg c12] at h
        refine V_if_ltF C 34 dX10_sheet_22 (by decide) c12 ?_
        refine V_iload_n C 3 dX10_sheet_25 rfl rfl ?_
        refine V_bipush C (w := 40) dX10_sheet_26 (by decide) ?_
        by_cases c13 : l3 ≤ 40
        · rw [if_pos c13] at h
          refine V_icmp_leT C 34 dX10_sheet_28 (by decide) c13 ?_
          exact X10_sheet_b34_ok C hd h
        · rw [if_neg c13] at h
          refine V_icmp_leF C 34 dX10_sheet_28 (by decide) c13 ?_
          refine V_bipush C (w := (-2)) dX10_sheet_31 (by decide) ?_
          cases h
          exact V_iret C rfl rfl dX10_sheet_33
def X10_film_b49 : Nat → Int32 → Int32 → St → Option (Int32 × St)
  | 0, _, _, _ => none
  | F + 1, l1, l2, σ => if (σ.1 0 11) ≤ l2 then (some ((σ.1 0 11), σ)) else (if ob (l2 + 1) 6 then none else (if ob ((40 * l1) + l2) 160 then none else (X10_film_b49 F l1 (l2 + 1) (up σ 18 (((40 * l1) + l2)).toNatClampNeg (σ.1 8 ((l2 + 1)).toNatClampNeg)))))
set_option maxRecDepth 100000 in
set_option maxHeartbeats 4000000 in
theorem X10_film_b49_ok {G : Gx} {p : Program} {l : Launch} {e : Env} {d : Nat} {s : State} {m : MethodId} {args : Array Value} {below : List Frame} {meth : Method} {c : Code} {A : Nat → Prop} (C : OK shM G p s m args meth c RX10 cX10_film 3 (some FieldType.int) A) (hd : 64 ≤ d) : ∀ (F : Nat) {l1 : Int32} {l2 : Int32} {σ : St} {x : (Int32 × St)} (h : X10_film_b49 F l1 l2 σ = some x), Vw shM G p l e d s m args below meth c 3 A σ 49 [(0, .ref (G.2.1 0)), (1, .int l1), (2, .int l2)] [] (some (.int x.1)) x.2 := by
  intro F
  induction F with
  | zero =>
    intro l1 l2 σ x h
    rw [X10_film_b49] at h
    cases h
  | succ F ih =>
    intro l1 l2 σ x h
    rw [X10_film_b49] at h
    refine V_iload_n C 2 dX10_film_49 rfl rfl ?_
    refine V_aload_n C 0 dX10_film_50 rfl rfl ?_
    refine fg10_79 C oM_0 dX10_film_51 ?_
    by_cases c1 : (σ.1 0 11) ≤ l2
    · rw [if_pos c1] at h
      refine V_icmp_geT C 82 dX10_film_54 (by decide) c1 ?_
      refine V_aload_n C 0 dX10_film_82 rfl rfl ?_
      refine fg10_79 C oM_0 dX10_film_83 ?_
      cases h
      exact V_iret C rfl rfl dX10_film_86
    · rw [if_neg c1] at h
      refine V_icmp_geF C 82 dX10_film_54 (by decide) c1 ?_
      refine V_aload_n C 0 dX10_film_57 rfl rfl ?_
      refine fg10_69 (r := 18) C oM_0 rfl dX10_film_58 ?_
      refine V_bipush C (w := 40) dX10_film_61 (by decide) ?_
      refine V_iload_n C 1 dX10_film_63 rfl rfl ?_
      refine V_imul C dX10_film_64 ?_
      refine V_iload_n C 2 dX10_film_65 rfl rfl ?_
      refine V_iadd C dX10_film_66 ?_
      refine V_aload_n C 0 dX10_film_67 rfl rfl ?_
      refine fg10_35 (r := 8) C oM_0 rfl dX10_film_68 ?_
      refine V_iload_n C 2 dX10_film_71 rfl rfl ?_
      refine V_iconst C (w := 1) dX10_film_72 (by decide) ?_
      refine V_iadd C dX10_film_73 ?_
      have g2 : ¬ (ob (l2 + 1) 6) := fun g9 => by rw [if_pos g9] at h; cases h
      rw [if_neg g2] at h
      refine V_ialdO C oM_8 g2 dX10_film_74 ?_
      have g3 : ¬ (ob ((40 * l1) + l2) 160) := fun g9 => by rw [if_pos g9] at h; cases h
      rw [if_neg g3] at h
      refine V_iastO C oM_18 g3 dX10_film_75 ?_
      refine V_iinc C (w := (l2 + 1)) (lv' := [(2, .int (l2 + 1)), (0, .ref (G.2.1 0)), (1, .int l1)]) 2 dX10_film_76 rfl (congrArg (l2 + ·) (show Int32.ofInt 1 = 1 by decide)) (by decide) rfl ?_
      refine V_goto C 49 dX10_film_79 (by decide) ?_
      refine V_sub (lv' := [(0, .ref (G.2.1 0)), (1, .int l1), (2, .int (l2 + 1))]) [1, 2, 0] rfl ?_
      exact ih h
def X10_film_b16 : Nat → Int32 → Int32 → St → Option (Int32 × St)
  | 0, _, _, _ => none
  | F + 1, l1, l2, σ => if (σ.1 0 11) ≤ l2 then ((X10_sheet l1 0 (σ.1 0 11) σ).bind (fun x43 => X10_film_b49 FU l1 0 x43.2)) else ((X10_comes l2 l2 σ).bind (fun x27 => X10_film_b16 F l1 (l2 + 1) x27))
set_option maxRecDepth 100000 in
set_option maxHeartbeats 4000000 in
theorem X10_film_b16_ok {G : Gx} {p : Program} {l : Launch} {e : Env} {d : Nat} {s : State} {m : MethodId} {args : Array Value} {below : List Frame} {meth : Method} {c : Code} {A : Nat → Prop} (C : OK shM G p s m args meth c RX10 cX10_film 3 (some FieldType.int) A) (hd : 64 ≤ d) : ∀ (F : Nat) {l1 : Int32} {l2 : Int32} {σ : St} {x : (Int32 × St)} (h : X10_film_b16 F l1 l2 σ = some x), Vw shM G p l e d s m args below meth c 3 A σ 16 [(0, .ref (G.2.1 0)), (1, .int l1), (2, .int l2)] [] (some (.int x.1)) x.2 := by
  intro F
  induction F with
  | zero =>
    intro l1 l2 σ x h
    rw [X10_film_b16] at h
    cases h
  | succ F ih =>
    intro l1 l2 σ x h
    rw [X10_film_b16] at h
    refine V_iload_n C 2 dX10_film_16 rfl rfl ?_
    refine V_aload_n C 0 dX10_film_17 rfl rfl ?_
    refine fg10_79 C oM_0 dX10_film_18 ?_
    by_cases c4 : (σ.1 0 11) ≤ l2
    · rw [if_pos c4] at h
      refine V_icmp_geT C 36 dX10_film_21 (by decide) c4 ?_
      refine V_aload_n C 0 dX10_film_36 rfl rfl ?_
      refine V_iload_n C 1 dX10_film_37 rfl rfl ?_
      refine V_iconst C (w := 0) dX10_film_38 (by decide) ?_
      refine V_aload_n C 0 dX10_film_39 rfl rfl ?_
      refine fg10_79 C oM_0 dX10_film_40 ?_
      obtain ⟨x43, h43, h⟩ := Option.bind_eq_some_iff.mp h
      refine V_callVi (As := [.int l1, .int 0, .int (σ.1 0 11)]) C (X10_sheet_ok h43) mw_X10_sheet.1 mw_X10_sheet.2.1 mw_X10_sheet.2.2 q10_330 oM_0.1 oM_0.2.1 (by decide) rfl rfl (by omega) rfl rfl rfl (Nat.le_of_ble_eq_true rfl) dX10_film_43 ?_
      refine V_pop C dX10_film_46 rfl ?_
      refine V_iconst C (w := 0) dX10_film_47 (by decide) ?_
      refine V_istore_n C (lv' := [(2, .int 0), (0, .ref (G.2.1 0)), (1, .int l1)]) dX10_film_48 rfl (by decide) rfl ?_
      refine V_sub (lv' := [(0, .ref (G.2.1 0)), (1, .int l1), (2, .int 0)]) [1, 2, 0] rfl ?_
      exact X10_film_b49_ok C hd FU h
    · rw [if_neg c4] at h
      refine V_icmp_geF C 36 dX10_film_21 (by decide) c4 ?_
      refine V_aload_n C 0 dX10_film_24 rfl rfl ?_
      refine V_iload_n C 2 dX10_film_25 rfl rfl ?_
      refine V_iload_n C 2 dX10_film_26 rfl rfl ?_
      obtain ⟨x27, h27, h⟩ := Option.bind_eq_some_iff.mp h
      refine V_callVv (As := [.int l2, .int l2]) C (X10_comes_ok h27) mw_X10_comes.1 mw_X10_comes.2.1 mw_X10_comes.2.2 q10_253 oM_0.1 oM_0.2.1 (by decide) rfl rfl (by omega) rfl rfl rfl (Nat.le_of_ble_eq_true rfl) dX10_film_27 ?_
      refine V_iinc C (w := (l2 + 1)) (lv' := [(2, .int (l2 + 1)), (0, .ref (G.2.1 0)), (1, .int l1)]) 2 dX10_film_30 rfl (congrArg (l2 + ·) (show Int32.ofInt 1 = 1 by decide)) (by decide) rfl ?_
      refine V_goto C 16 dX10_film_33 (by decide) ?_
      refine V_sub (lv' := [(0, .ref (G.2.1 0)), (1, .int l1), (2, .int (l2 + 1))]) [1, 2, 0] rfl ?_
      exact ih h
def X10_film (l1 : Int32) (σ : St) : Option (Int32 × St) := (X10_isSheet l1).bind (fun x1 => if x1 = 0 then (some ((-2), σ)) else ((X10_begins σ).bind (fun x11 => X10_film_b16 FU l1 0 x11)))
set_option maxRecDepth 100000 in
set_option maxHeartbeats 4000000 in
theorem X10_film_ok {l1 : Int32} {σ : St} {x : (Int32 × St)} (h : X10_film l1 σ = some x) : Ct shM (64) yX10_film cX10_film 3 (some FieldType.int) (fun G => [.ref (G.2.1 0), .int l1]) σ (fun G => some (.int x.1)) x.2 := by
  refine Ct.of mw_X10_film.1 (by decide +kernel) (fun G => Nat.le_of_ble_eq_true rfl) (fun G p l e d s m args below meth c A hd C => ?_)
  refine (?_ : Vw shM G p l e d s m args below meth c 3 A σ 0 [(0, .ref (G.2.1 0)), (1, .int l1)] [] (some (.int x.1)) x.2)
  unfold X10_film at h
  refine V_iload_n C 1 dX10_film_0 rfl rfl ?_
  obtain ⟨x1, h1, h⟩ := Option.bind_eq_some_iff.mp h
  refine V_callSi (As := [.int l1]) C (X10_isSheet_ok h1) mw_X10_isSheet.1 mw_X10_isSheet.2 q10_256 (by omega) rfl rfl rfl (Nat.le_of_ble_eq_true rfl) dX10_film_1 ?_
  by_cases c5 : x1 = 0
  · rw [if_pos c5] at h
    refine V_if_neF C 10 dX10_film_4 (by decide) c5 ?_
    refine V_bipush C (w := (-2)) dX10_film_7 (by decide) ?_
    cases h
    exact V_iret C rfl rfl dX10_film_9
  · rw [if_neg c5] at h
    refine V_if_neT C 10 dX10_film_4 (by decide) c5 ?_
    refine V_aload_n C 0 dX10_film_10 rfl rfl ?_
    obtain ⟨x11, h11, h⟩ := Option.bind_eq_some_iff.mp h
    refine V_callVv (As := []) C (X10_begins_ok h11) mw_X10_begins.1 mw_X10_begins.2.1 mw_X10_begins.2.2 q10_113 oM_0.1 oM_0.2.1 (by decide) rfl rfl (by omega) rfl rfl rfl (Nat.le_of_ble_eq_true rfl) dX10_film_11 ?_
    refine V_iconst C (w := 0) dX10_film_14 (by decide) ?_
    refine V_istore_n C (lv' := [(2, .int 0), (0, .ref (G.2.1 0)), (1, .int l1)]) dX10_film_15 rfl (by decide) rfl ?_
    refine V_sub (lv' := [(0, .ref (G.2.1 0)), (1, .int l1), (2, .int 0)]) [1, 2, 0] rfl ?_
    exact X10_film_b16_ok C hd FU h
def X10_draws_b84 : Nat → Int32 → St → Option St
  | 0, _, _ => none
  | F + 1, l3, σ => if (σ.1 0 11) ≤ l3 then (some σ) else (if ob l3 5 then none else (if ob ((3 * l3) + 1) 15 then none else (X10_draws_b84 F (l3 + 1) (up σ 6 (((3 * l3) + 1)).toNatClampNeg (σ.1 12 (l3).toNatClampNeg)))))
set_option maxRecDepth 100000 in
set_option maxHeartbeats 4000000 in
theorem X10_draws_b84_ok {G : Gx} {p : Program} {l : Launch} {e : Env} {d : Nat} {s : State} {m : MethodId} {args : Array Value} {below : List Frame} {meth : Method} {c : Code} {A : Nat → Prop} (C : OK shM G p s m args meth c RX10 cX10_draws 4 none A) (hd : 64 ≤ d) : ∀ (F : Nat) {l3 : Int32} {σ : St} {x : St} (h : X10_draws_b84 F l3 σ = some x), Vw shM G p l e d s m args below meth c 4 A σ 84 [(0, .ref (G.2.1 0)), (3, .int l3)] [] (none) x := by
  intro F
  induction F with
  | zero =>
    intro l3 σ x h
    rw [X10_draws_b84] at h
    cases h
  | succ F ih =>
    intro l3 σ x h
    rw [X10_draws_b84] at h
    refine V_iload_n C 1 dX10_draws_84 rfl rfl ?_
    refine V_aload_n C 0 dX10_draws_85 rfl rfl ?_
    refine fg10_79 C oM_0 dX10_draws_86 ?_
    by_cases c1 : (σ.1 0 11) ≤ l3
    · rw [if_pos c1] at h
      refine V_icmp_geT C 114 dX10_draws_89 (by decide) c1 ?_
      cases h
      exact V_vret C rfl dX10_draws_114
    · rw [if_neg c1] at h
      refine V_icmp_geF C 114 dX10_draws_89 (by decide) c1 ?_
      refine V_aload_n C 0 dX10_draws_92 rfl rfl ?_
      refine fg10_29 (r := 6) C oM_0 rfl dX10_draws_93 ?_
      refine V_iconst C (w := 3) dX10_draws_96 (by decide) ?_
      refine V_iload_n C 1 dX10_draws_97 rfl rfl ?_
      refine V_imul C dX10_draws_98 ?_
      refine V_iconst C (w := 1) dX10_draws_99 (by decide) ?_
      refine V_iadd C dX10_draws_100 ?_
      refine V_aload_n C 0 dX10_draws_101 rfl rfl ?_
      refine fg10_48 (r := 12) C oM_0 rfl dX10_draws_102 ?_
      refine V_iload_n C 1 dX10_draws_105 rfl rfl ?_
      have g2 : ¬ (ob l3 5) := fun g9 => by rw [if_pos g9] at h; cases h
      rw [if_neg g2] at h
      refine V_ialdO C oM_12 g2 dX10_draws_106 ?_
      have g3 : ¬ (ob ((3 * l3) + 1) 15) := fun g9 => by rw [if_pos g9] at h; cases h
      rw [if_neg g3] at h
      refine V_iastO C oM_6 g3 dX10_draws_107 ?_
      refine V_iinc C (w := (l3 + 1)) (lv' := [(3, .int (l3 + 1)), (0, .ref (G.2.1 0))]) 1 dX10_draws_108 rfl (congrArg (l3 + ·) (show Int32.ofInt 1 = 1 by decide)) (by decide) rfl ?_
      refine V_goto C 84 dX10_draws_111 (by decide) ?_
      refine V_sub (lv' := [(0, .ref (G.2.1 0)), (3, .int (l3 + 1))]) [1, 0] rfl ?_
      exact ih h
def X10_draws_b62 : Nat → Int32 → St → Option St
  | 0, _, _ => none
  | F + 1, l3, σ => if (σ.1 0 11) ≤ l3 then (X10_draws_b84 FU 0 σ) else ((X10_comes l3 l3 σ).bind (fun x73 => X10_draws_b62 F (l3 + 1) x73))
set_option maxRecDepth 100000 in
set_option maxHeartbeats 4000000 in
theorem X10_draws_b62_ok {G : Gx} {p : Program} {l : Launch} {e : Env} {d : Nat} {s : State} {m : MethodId} {args : Array Value} {below : List Frame} {meth : Method} {c : Code} {A : Nat → Prop} (C : OK shM G p s m args meth c RX10 cX10_draws 4 none A) (hd : 64 ≤ d) : ∀ (F : Nat) {l3 : Int32} {σ : St} {x : St} (h : X10_draws_b62 F l3 σ = some x), Vw shM G p l e d s m args below meth c 4 A σ 62 [(0, .ref (G.2.1 0)), (3, .int l3)] [] (none) x := by
  intro F
  induction F with
  | zero =>
    intro l3 σ x h
    rw [X10_draws_b62] at h
    cases h
  | succ F ih =>
    intro l3 σ x h
    rw [X10_draws_b62] at h
    refine V_iload_n C 1 dX10_draws_62 rfl rfl ?_
    refine V_aload_n C 0 dX10_draws_63 rfl rfl ?_
    refine fg10_79 C oM_0 dX10_draws_64 ?_
    by_cases c4 : (σ.1 0 11) ≤ l3
    · rw [if_pos c4] at h
      refine V_icmp_geT C 82 dX10_draws_67 (by decide) c4 ?_
      refine V_iconst C (w := 0) dX10_draws_82 (by decide) ?_
      refine V_istore_n C (lv' := [(3, .int 0), (0, .ref (G.2.1 0))]) dX10_draws_83 rfl (by decide) rfl ?_
      refine V_sub (lv' := [(0, .ref (G.2.1 0)), (3, .int 0)]) [1, 0] rfl ?_
      exact X10_draws_b84_ok C hd FU h
    · rw [if_neg c4] at h
      refine V_icmp_geF C 82 dX10_draws_67 (by decide) c4 ?_
      refine V_aload_n C 0 dX10_draws_70 rfl rfl ?_
      refine V_iload_n C 1 dX10_draws_71 rfl rfl ?_
      refine V_iload_n C 1 dX10_draws_72 rfl rfl ?_
      obtain ⟨x73, h73, h⟩ := Option.bind_eq_some_iff.mp h
      refine V_callVv (As := [.int l3, .int l3]) C (X10_comes_ok h73) mw_X10_comes.1 mw_X10_comes.2.1 mw_X10_comes.2.2 q10_253 oM_0.1 oM_0.2.1 (by decide) rfl rfl (by omega) rfl rfl rfl (Nat.le_of_ble_eq_true rfl) dX10_draws_73 ?_
      refine V_iinc C (w := (l3 + 1)) (lv' := [(3, .int (l3 + 1)), (0, .ref (G.2.1 0))]) 1 dX10_draws_76 rfl (congrArg (l3 + ·) (show Int32.ofInt 1 = 1 by decide)) (by decide) rfl ?_
      refine V_goto C 62 dX10_draws_79 (by decide) ?_
      refine V_sub (lv' := [(0, .ref (G.2.1 0)), (3, .int (l3 + 1))]) [1, 0] rfl ?_
      exact ih h
def X10_draws_b4 : Nat → Int32 → Int32 → St → Option St
  | 0, _, _, _ => none
  | F + 1, l2, l3, σ => if (σ.1 0 11) ≤ l3 then ((X10_begins σ).bind (fun x57 => X10_draws_b62 FU 0 x57)) else ((X10_topicOf l3 σ).bind (fun x19 => if ob l3 5 then none else (if ob ((3 * l3) + 1) 15 then none else (X10_draws_b4 F ((l2 * 1103515245) + 12345) (l3 + 1) (up (up σ 12 (l3).toNatClampNeg x19) 6 (((3 * l3) + 1)).toNatClampNeg (((((l2 * 1103515245) + 12345).toUInt32 >>> (Int32.toUInt32 9 &&& Int32.toUInt32 31)).toInt32) - ((((l2 * 1103515245) + 12345).toUInt32 >>> (Int32.toUInt32 9 &&& Int32.toUInt32 31)).toInt32) / 8 * 8))))))
set_option maxRecDepth 100000 in
set_option maxHeartbeats 4000000 in
theorem X10_draws_b4_ok {G : Gx} {p : Program} {l : Launch} {e : Env} {d : Nat} {s : State} {m : MethodId} {args : Array Value} {below : List Frame} {meth : Method} {c : Code} {A : Nat → Prop} (C : OK shM G p s m args meth c RX10 cX10_draws 4 none A) (hd : 64 ≤ d) : ∀ (F : Nat) {l2 : Int32} {l3 : Int32} {σ : St} {x : St} (h : X10_draws_b4 F l2 l3 σ = some x), Vw shM G p l e d s m args below meth c 4 A σ 4 [(0, .ref (G.2.1 0)), (2, .int l2), (3, .int l3)] [] (none) x := by
  intro F
  induction F with
  | zero =>
    intro l2 l3 σ x h
    rw [X10_draws_b4] at h
    cases h
  | succ F ih =>
    intro l2 l3 σ x h
    rw [X10_draws_b4] at h
    refine V_iload_n C 2 dX10_draws_4 rfl rfl ?_
    refine V_aload_n C 0 dX10_draws_5 rfl rfl ?_
    refine fg10_79 C oM_0 dX10_draws_6 ?_
    by_cases c5 : (σ.1 0 11) ≤ l3
    · rw [if_pos c5] at h
      refine V_icmp_geT C 56 dX10_draws_9 (by decide) c5 ?_
      refine V_aload_n C 0 dX10_draws_56 rfl rfl ?_
      obtain ⟨x57, h57, h⟩ := Option.bind_eq_some_iff.mp h
      refine V_callVv (As := []) C (X10_begins_ok h57) mw_X10_begins.1 mw_X10_begins.2.1 mw_X10_begins.2.2 q10_113 oM_0.1 oM_0.2.1 (by decide) rfl rfl (by omega) rfl rfl rfl (Nat.le_of_ble_eq_true rfl) dX10_draws_57 ?_
      refine V_iconst C (w := 0) dX10_draws_60 (by decide) ?_
      refine V_istore_n C (lv' := [(3, .int 0), (0, .ref (G.2.1 0)), (2, .int l2)]) dX10_draws_61 rfl (by decide) rfl ?_
      refine V_sub (lv' := [(0, .ref (G.2.1 0)), (3, .int 0)]) [1, 0] rfl ?_
      exact X10_draws_b62_ok C hd FU h
    · rw [if_neg c5] at h
      refine V_icmp_geF C 56 dX10_draws_9 (by decide) c5 ?_
      refine V_aload_n C 0 dX10_draws_12 rfl rfl ?_
      refine fg10_48 (r := 12) C oM_0 rfl dX10_draws_13 ?_
      refine V_iload_n C 2 dX10_draws_16 rfl rfl ?_
      refine V_aload_n C 0 dX10_draws_17 rfl rfl ?_
      refine V_iload_n C 2 dX10_draws_18 rfl rfl ?_
      obtain ⟨x19, h19, h⟩ := Option.bind_eq_some_iff.mp h
      refine V_callVi (As := [.int l3]) C (X10_topicOf_ok h19) mw_X10_topicOf.1 mw_X10_topicOf.2.1 mw_X10_topicOf.2.2 q10_246 oM_0.1 oM_0.2.1 (by decide) rfl rfl (by omega) rfl rfl rfl (Nat.le_of_ble_eq_true rfl) dX10_draws_19 ?_
      have g6 : ¬ (ob l3 5) := fun g9 => by rw [if_pos g9] at h; cases h
      rw [if_neg g6] at h
      refine V_iastO C oM_12 g6 dX10_draws_22 ?_
      refine V_iload_n C 1 dX10_draws_23 rfl rfl ?_
      refine V_ldcw C (w := 1103515245) dX10_draws_24 qk10_333 ?_
      refine V_imul C dX10_draws_27 ?_
      refine V_sipush C (w := 12345) dX10_draws_28 (by decide) ?_
      refine V_iadd C dX10_draws_31 ?_
      refine V_istore_n C (lv' := [(2, .int ((l2 * 1103515245) + 12345)), (0, .ref (G.2.1 0)), (3, .int l3)]) dX10_draws_32 rfl (by decide) rfl ?_
      refine V_aload_n C 1 dX10_draws_33 rfl rfl ?_
      refine fg10_29 (r := 6) C oM_0 rfl dX10_draws_34 ?_
      refine V_iconst C (w := 3) dX10_draws_37 (by decide) ?_
      refine V_iload_n C 2 dX10_draws_38 rfl rfl ?_
      refine V_imul C dX10_draws_39 ?_
      refine V_iconst C (w := 1) dX10_draws_40 (by decide) ?_
      refine V_iadd C dX10_draws_41 ?_
      refine V_iload_n C 0 dX10_draws_42 rfl rfl ?_
      refine V_bipush C (w := 9) dX10_draws_43 (by decide) ?_
      refine V_iushr C dX10_draws_45 rfl ?_
      refine V_bipush C (w := 8) dX10_draws_46 (by decide) ?_
      refine V_irem C dX10_draws_48 (by decide) ?_
      have g7 : ¬ (ob ((3 * l3) + 1) 15) := fun g9 => by rw [if_pos g9] at h; cases h
      rw [if_neg g7] at h
      refine V_iastO C oM_6 g7 dX10_draws_49 ?_
      refine V_iinc C (w := (l3 + 1)) (lv' := [(3, .int (l3 + 1)), (2, .int ((l2 * 1103515245) + 12345)), (0, .ref (G.2.1 0))]) 2 dX10_draws_50 rfl (congrArg (l3 + ·) (show Int32.ofInt 1 = 1 by decide)) (by decide) rfl ?_
      refine V_goto C 4 dX10_draws_53 (by decide) ?_
      refine V_sub (lv' := [(0, .ref (G.2.1 0)), (2, .int ((l2 * 1103515245) + 12345)), (3, .int (l3 + 1))]) [2, 1, 0] rfl ?_
      exact ih h
def X10_draws (l1 : Int32) (σ : St) : Option St := X10_draws_b4 FU l1 0 σ
set_option maxRecDepth 100000 in
set_option maxHeartbeats 4000000 in
theorem X10_draws_ok {l1 : Int32} {σ : St} {x : St} (h : X10_draws l1 σ = some x) : Ct shM (64) yX10_draws cX10_draws 4 none (fun G => [.ref (G.2.1 0), .int l1]) σ (fun G => none) x := by
  refine Ct.of mw_X10_draws.1 (by decide +kernel) (fun G => Nat.le_of_ble_eq_true rfl) (fun G p l e d s m args below meth c A hd C => ?_)
  refine (?_ : Vw shM G p l e d s m args below meth c 4 A σ 0 [(0, .ref (G.2.1 0)), (1, .int l1)] [] (none) x)
  unfold X10_draws at h
  refine V_iload_n C 1 dX10_draws_0 rfl rfl ?_
  refine V_istore_n C (lv' := [(2, .int l1), (0, .ref (G.2.1 0)), (1, .int l1)]) dX10_draws_1 rfl (by decide) rfl ?_
  refine V_iconst C (w := 0) dX10_draws_2 (by decide) ?_
  refine V_istore_n C (lv' := [(3, .int 0), (2, .int l1), (0, .ref (G.2.1 0)), (1, .int l1)]) dX10_draws_3 rfl (by decide) rfl ?_
  refine V_sub (lv' := [(0, .ref (G.2.1 0)), (2, .int l1), (3, .int 0)]) [2, 1, 0] rfl ?_
  exact X10_draws_b4_ok C hd FU h
def X10_drawn (l1 : Int32) (σ : St) : Option (Int32 × St) := (X10_draws l1 σ).bind (fun x2 => if ob (x2.1 0 11) 6 then none else (some ((x2.1 8 ((x2.1 0 11)).toNatClampNeg), x2)))
set_option maxRecDepth 100000 in
set_option maxHeartbeats 4000000 in
theorem X10_drawn_ok {l1 : Int32} {σ : St} {x : (Int32 × St)} (h : X10_drawn l1 σ = some x) : Ct shM (65) yX10_drawn cX10_drawn 2 (some FieldType.int) (fun G => [.ref (G.2.1 0), .int l1]) σ (fun G => some (.int x.1)) x.2 := by
  refine Ct.of mw_X10_drawn.1 (by decide +kernel) (fun G => Nat.le_of_ble_eq_true rfl) (fun G p l e d s m args below meth c A hd C => ?_)
  refine (?_ : Vw shM G p l e d s m args below meth c 2 A σ 0 [(0, .ref (G.2.1 0)), (1, .int l1)] [] (some (.int x.1)) x.2)
  unfold X10_drawn at h
  refine V_aload_n C 0 dX10_drawn_0 rfl rfl ?_
  refine V_iload_n C 1 dX10_drawn_1 rfl rfl ?_
  obtain ⟨x2, h2, h⟩ := Option.bind_eq_some_iff.mp h
  refine V_callVv (As := [.int l1]) C (X10_draws_ok h2) mw_X10_draws.1 mw_X10_draws.2.1 mw_X10_draws.2.2 q10_334 oM_0.1 oM_0.2.1 (by decide) rfl rfl (by omega) rfl rfl rfl (Nat.le_of_ble_eq_true rfl) dX10_drawn_2 ?_
  refine V_aload_n C 0 dX10_drawn_5 rfl rfl ?_
  refine fg10_35 (r := 8) C oM_0 rfl dX10_drawn_6 ?_
  refine V_aload_n C 0 dX10_drawn_9 rfl rfl ?_
  refine fg10_79 C oM_0 dX10_drawn_10 ?_
  have g1 : ¬ (ob (x2.1 0 11) 6) := fun g9 => by rw [if_pos g9] at h; cases h
  rw [if_neg g1] at h
  refine V_ialdO C oM_8 g1 dX10_drawn_13 ?_
  cases h
  exact V_iret C rfl rfl dX10_drawn_14
def X10_chance_b64 (K32 : Int32 → Int32 → Int32 → Int64 → Int32 → St → Option (Int64 × St)) (l1 : Int32) (l2 : Int32) (l3 : Int32) (l6 : Int32) (s0 : Int64) (s1 : Int64) (σ : St) : Option (Int64 × St) := K32 l1 l2 l3 (s1 + s0) (l6 + 1) σ
set_option maxRecDepth 100000 in
set_option maxHeartbeats 4000000 in
theorem X10_chance_b64_ok {G : Gx} {p : Program} {l : Launch} {e : Env} {d : Nat} {s : State} {m : MethodId} {args : Array Value} {below : List Frame} {meth : Method} {c : Code} {A : Nat → Prop} {K32 : Int32 → Int32 → Int32 → Int64 → Int32 → St → Option (Int64 × St)} (C : OK shM G p s m args meth c RX10 cX10_chance 12 (some FieldType.long) A) (hd : 65 ≤ d) (hK32 : ∀  {l1 : Int32} {l2 : Int32} {l3 : Int32} {l4 : Int64} {l6 : Int32} {σ : St} {x : (Int64 × St)}, K32 l1 l2 l3 l4 l6 σ = some x → Vw shM G p l e d s m args below meth c 12 A σ 32 [(0, .ref (G.2.1 0)), (1, .int l1), (2, .int l2), (3, .int l3), (4, .long l4), (6, .int l6)] [] (some (.long x.1)) x.2) {l1 : Int32} {l2 : Int32} {l3 : Int32} {l6 : Int32} {s0 : Int64} {s1 : Int64} {σ : St} {x : (Int64 × St)} (h : X10_chance_b64 K32 l1 l2 l3 l6 s0 s1 σ = some x) : Vw shM G p l e d s m args below meth c 12 A σ 64 [(0, .ref (G.2.1 0)), (1, .int l1), (2, .int l2), (3, .int l3), (6, .int l6)] [.long s0, .long s1] (some (.long x.1)) x.2 := by
  unfold X10_chance_b64 at h
  refine V_ladd C dX10_chance_64 ?_
  refine V_lstore C (lv' := [(4, .long (s1 + s0)), (0, .ref (G.2.1 0)), (1, .int l1), (2, .int l2), (3, .int l3), (6, .int l6)]) dX10_chance_65 (by decide) rfl ?_
  refine V_iinc C (w := (l6 + 1)) (lv' := [(6, .int (l6 + 1)), (4, .long (s1 + s0)), (0, .ref (G.2.1 0)), (1, .int l1), (2, .int l2), (3, .int l3)]) 5 dX10_chance_67 rfl (congrArg (l6 + ·) (show Int32.ofInt 1 = 1 by decide)) (by decide) rfl ?_
  refine V_goto C 32 dX10_chance_70 (by decide) ?_
  refine V_sub (lv' := [(0, .ref (G.2.1 0)), (1, .int l1), (2, .int l2), (3, .int l3), (4, .long (s1 + s0)), (6, .int (l6 + 1))]) [2, 3, 4, 5, 1, 0] rfl ?_
  exact hK32 h
def X10_chance_b81 : Nat → Int32 → Int32 → Int64 → Int64 → Int64 → St → Option (Int64 × St)
  | 0, _, _, _, _, _, _ => none
  | F + 1, l2, l3, l4, l6, l8, σ => if (lg_cmp l8 0) = 0 then (if l3 = 0 then (if l6 = 0 then none else (some ((l4 / l6), σ))) else (if l6 = 0 then none else (some (((Int32.toInt64 l2) / l6), σ)))) else (if l8 = 0 then none else (X10_chance_b81 F l2 l3 l4 l8 (l6 - l6 / l8 * l8) σ))
set_option maxRecDepth 100000 in
set_option maxHeartbeats 4000000 in
theorem X10_chance_b81_ok {G : Gx} {p : Program} {l : Launch} {e : Env} {d : Nat} {s : State} {m : MethodId} {args : Array Value} {below : List Frame} {meth : Method} {c : Code} {A : Nat → Prop} (C : OK shM G p s m args meth c RX10 cX10_chance 12 (some FieldType.long) A) (hd : 65 ≤ d) : ∀ (F : Nat) {l2 : Int32} {l3 : Int32} {l4 : Int64} {l6 : Int64} {l8 : Int64} {σ : St} {x : (Int64 × St)} (h : X10_chance_b81 F l2 l3 l4 l6 l8 σ = some x), Vw shM G p l e d s m args below meth c 12 A σ 81 [(2, .int l2), (3, .int l3), (4, .long l4), (6, .long l6), (8, .long l8)] [] (some (.long x.1)) x.2 := by
  intro F
  induction F with
  | zero =>
    intro l2 l3 l4 l6 l8 σ x h
    rw [X10_chance_b81] at h
    cases h
  | succ F ih =>
    intro l2 l3 l4 l6 l8 σ x h
    rw [X10_chance_b81] at h
    refine V_lload C 4 dX10_chance_81 rfl ?_
    refine V_lconst C (w := 0) dX10_chance_83 (by decide) ?_
    refine V_lcmp C dX10_chance_84 ?_
    by_cases c1 : (lg_cmp l8 0) = 0
    · rw [if_pos c1] at h
      refine V_if_eqT C 106 dX10_chance_85 (by decide) c1 ?_
      refine V_iload_n C 1 dX10_chance_106 rfl rfl ?_
      by_cases c2 : l3 = 0
      · rw [if_pos c2] at h
        refine V_if_neF C 118 dX10_chance_107 (by decide) c2 ?_
        refine V_lload C 2 dX10_chance_110 rfl ?_
        refine V_lload C 3 dX10_chance_112 rfl ?_
        have g4 : ¬ (l6 = 0) := fun g9 => by rw [if_pos g9] at h; cases h
        rw [if_neg g4] at h
        refine V_ldiv C dX10_chance_114 g4 ?_
        refine V_goto C 123 dX10_chance_115 (by decide) ?_
        cases h
        exact V_lret C rfl dX10_chance_123
      · rw [if_neg c2] at h
        refine V_if_neT C 118 dX10_chance_107 (by decide) c2 ?_
        refine V_iload_n C 0 dX10_chance_118 rfl rfl ?_
        refine V_i2l C dX10_chance_119 ?_
        refine V_lload C 3 dX10_chance_120 rfl ?_
        have g3 : ¬ (l6 = 0) := fun g9 => by rw [if_pos g9] at h; cases h
        rw [if_neg g3] at h
        refine V_ldiv C dX10_chance_122 g3 ?_
        cases h
        exact V_lret C rfl dX10_chance_123
    · rw [if_neg c1] at h
      refine V_if_eqF C 106 dX10_chance_85 (by decide) c1 ?_
      refine V_lload C 3 dX10_chance_88 rfl ?_
      refine V_lload C 4 dX10_chance_90 rfl ?_
      have g5 : ¬ (l8 = 0) := fun g9 => by rw [if_pos g9] at h; cases h
      rw [if_neg g5] at h
      refine V_lrem C dX10_chance_92 g5 ?_
      refine V_lstore C (lv' := [(10, .long (l6 - l6 / l8 * l8)), (2, .int l2), (3, .int l3), (4, .long l4), (6, .long l6), (8, .long l8)]) dX10_chance_93 (by decide) rfl ?_
      refine V_lload C 5 dX10_chance_95 rfl ?_
      refine V_lstore C (lv' := [(6, .long l8), (10, .long (l6 - l6 / l8 * l8)), (2, .int l2), (3, .int l3), (4, .long l4), (8, .long l8)]) dX10_chance_97 (by decide) rfl ?_
      refine V_lload C 1 dX10_chance_99 rfl ?_
      refine V_lstore C (lv' := [(8, .long (l6 - l6 / l8 * l8)), (6, .long l8), (10, .long (l6 - l6 / l8 * l8)), (2, .int l2), (3, .int l3), (4, .long l4)]) dX10_chance_101 (by decide) rfl ?_
      refine V_goto C 81 dX10_chance_103 (by decide) ?_
      refine V_sub (lv' := [(2, .int l2), (3, .int l3), (4, .long l4), (6, .long l8), (8, .long (l6 - l6 / l8 * l8))]) [3, 4, 5, 1, 0] rfl ?_
      exact ih h
def X10_chance_b32 : Nat → Int32 → Int32 → Int32 → Int64 → Int32 → St → Option (Int64 × St)
  | 0, _, _, _, _, _, _ => none
  | F + 1, l1, l2, l3, l4, l6, σ => if l2 ≤ l6 then (X10_chance_b81 FU l2 l3 l4 l4 (Int32.toInt64 l2) σ) else ((X10_draws (l1 + l6) σ).bind (fun x43 => (X10_screamsTill (x43.1 0 11) x43).bind (fun x53 => if x53 ≤ 0 then (X10_chance_b64 (X10_chance_b32 F) l1 l2 l3 l6 0 l4 x43) else (X10_chance_b64 (X10_chance_b32 F) l1 l2 l3 l6 1 l4 x43))))
set_option maxRecDepth 100000 in
set_option maxHeartbeats 4000000 in
theorem X10_chance_b32_ok {G : Gx} {p : Program} {l : Launch} {e : Env} {d : Nat} {s : State} {m : MethodId} {args : Array Value} {below : List Frame} {meth : Method} {c : Code} {A : Nat → Prop} (C : OK shM G p s m args meth c RX10 cX10_chance 12 (some FieldType.long) A) (hd : 65 ≤ d) : ∀ (F : Nat) {l1 : Int32} {l2 : Int32} {l3 : Int32} {l4 : Int64} {l6 : Int32} {σ : St} {x : (Int64 × St)} (h : X10_chance_b32 F l1 l2 l3 l4 l6 σ = some x), Vw shM G p l e d s m args below meth c 12 A σ 32 [(0, .ref (G.2.1 0)), (1, .int l1), (2, .int l2), (3, .int l3), (4, .long l4), (6, .int l6)] [] (some (.long x.1)) x.2 := by
  intro F
  induction F with
  | zero =>
    intro l1 l2 l3 l4 l6 σ x h
    rw [X10_chance_b32] at h
    cases h
  | succ F ih =>
    intro l1 l2 l3 l4 l6 σ x h
    rw [X10_chance_b32] at h
    refine V_iload C 5 dX10_chance_32 rfl ?_
    refine V_iload_n C 2 dX10_chance_34 rfl rfl ?_
    by_cases c6 : l2 ≤ l6
    · rw [if_pos c6] at h
      refine V_icmp_geT C 73 dX10_chance_35 (by decide) c6 ?_
      refine V_lload C 4 dX10_chance_73 rfl ?_
      refine V_lstore C (lv' := [(6, .long l4), (0, .ref (G.2.1 0)), (1, .int l1), (2, .int l2), (3, .int l3), (4, .long l4)]) dX10_chance_75 (by decide) rfl ?_
      refine V_iload_n C 3 dX10_chance_77 rfl rfl ?_
      refine V_i2l C dX10_chance_78 ?_
      refine V_lstore C (lv' := [(8, .long (Int32.toInt64 l2)), (6, .long l4), (0, .ref (G.2.1 0)), (1, .int l1), (2, .int l2), (3, .int l3), (4, .long l4)]) dX10_chance_79 (by decide) rfl ?_
      refine V_sub (lv' := [(2, .int l2), (3, .int l3), (4, .long l4), (6, .long l4), (8, .long (Int32.toInt64 l2))]) [4, 5, 6, 1, 0] rfl ?_
      exact X10_chance_b81_ok C hd FU h
    · rw [if_neg c6] at h
      refine V_icmp_geF C 73 dX10_chance_35 (by decide) c6 ?_
      refine V_aload_n C 0 dX10_chance_38 rfl rfl ?_
      refine V_iload_n C 1 dX10_chance_39 rfl rfl ?_
      refine V_iload C 5 dX10_chance_40 rfl ?_
      refine V_iadd C dX10_chance_42 ?_
      obtain ⟨x43, h43, h⟩ := Option.bind_eq_some_iff.mp h
      refine V_callVv (As := [.int (l1 + l6)]) C (X10_draws_ok h43) mw_X10_draws.1 mw_X10_draws.2.1 mw_X10_draws.2.2 q10_334 oM_0.1 oM_0.2.1 (by decide) rfl rfl (by omega) rfl rfl rfl (Nat.le_of_ble_eq_true rfl) dX10_chance_43 ?_
      refine V_lload C 4 dX10_chance_46 rfl ?_
      refine V_aload_n C 0 dX10_chance_48 rfl rfl ?_
      refine V_aload_n C 0 dX10_chance_49 rfl rfl ?_
      refine fg10_79 C oM_0 dX10_chance_50 ?_
      obtain ⟨x53, h53, h⟩ := Option.bind_eq_some_iff.mp h
      refine V_callVi (As := [.int (x43.1 0 11)]) C (X10_screamsTill_ok h53) mw_X10_screamsTill.1 mw_X10_screamsTill.2.1 mw_X10_screamsTill.2.2 q10_271 oM_0.1 oM_0.2.1 (by decide) rfl rfl (by omega) rfl rfl rfl (Nat.le_of_ble_eq_true rfl) dX10_chance_53 ?_
      by_cases c7 : x53 ≤ 0
      · rw [if_pos c7] at h
        refine V_if_leT C 63 dX10_chance_56 (by decide) c7 ?_
        refine V_lconst C (w := 0) dX10_chance_63 (by decide) ?_
        refine V_sub (lv' := [(0, .ref (G.2.1 0)), (1, .int l1), (2, .int l2), (3, .int l3), (6, .int l6)]) [0, 1, 2, 3, 5] rfl ?_
        exact X10_chance_b64_ok C hd (fun h => ih h) h
      · rw [if_neg c7] at h
        refine V_if_leF C 63 dX10_chance_56 (by decide) c7 ?_
        refine V_lconst C (w := 1) dX10_chance_59 (by decide) ?_
        refine V_goto C 64 dX10_chance_60 (by decide) ?_
        refine V_sub (lv' := [(0, .ref (G.2.1 0)), (1, .int l1), (2, .int l2), (3, .int l3), (6, .int l6)]) [0, 1, 2, 3, 5] rfl ?_
        exact X10_chance_b64_ok C hd (fun h => ih h) h
def X10_chance (l1 : Int32) (l2 : Int32) (l3 : Int32) (σ : St) : Option (Int64 × St) := (X10_in (Int32.toInt64 l2) 1 20).bind (fun x6 => if x6 = 0 then (some ((-4611686018427387904), σ)) else ((X10_in (Int32.toInt64 l3) 0 1).bind (fun x16 => if x16 = 0 then (some ((-4611686018427387904), σ)) else (X10_chance_b32 FU l1 l2 l3 0 0 σ))))
set_option maxRecDepth 100000 in
set_option maxHeartbeats 4000000 in
theorem X10_chance_ok {l1 : Int32} {l2 : Int32} {l3 : Int32} {σ : St} {x : (Int64 × St)} (h : X10_chance l1 l2 l3 σ = some x) : Ct shM (65) yX10_chance cX10_chance 12 (some FieldType.long) (fun G => [.ref (G.2.1 0), .int l1, .int l2, .int l3]) σ (fun G => some (.long x.1)) x.2 := by
  refine Ct.of mw_X10_chance.1 (by decide +kernel) (fun G => Nat.le_of_ble_eq_true rfl) (fun G p l e d s m args below meth c A hd C => ?_)
  refine (?_ : Vw shM G p l e d s m args below meth c 12 A σ 0 [(0, .ref (G.2.1 0)), (1, .int l1), (2, .int l2), (3, .int l3)] [] (some (.long x.1)) x.2)
  unfold X10_chance at h
  refine V_iload_n C 2 dX10_chance_0 rfl rfl ?_
  refine V_i2l C dX10_chance_1 ?_
  refine V_lconst C (w := 1) dX10_chance_2 (by decide) ?_
  refine V_ldc2 C (w := 20) dX10_chance_3 qk10_337 ?_
  obtain ⟨x6, h6, h⟩ := Option.bind_eq_some_iff.mp h
  refine V_callSi (As := [.long (Int32.toInt64 l2), .long 1, .long 20]) C (X10_in_ok h6) mw_X10_in.1 mw_X10_in.2 q10_82 (by omega) rfl rfl rfl (Nat.le_of_ble_eq_true rfl) dX10_chance_6 ?_
  by_cases c8 : x6 = 0
  · rw [if_pos c8] at h
    refine V_if_eqT C 22 dX10_chance_9 (by decide) c8 ?_
    refine V_ldc2 C (w := (-4611686018427387904)) dX10_chance_22 qk10_339 ?_
    cases h
    exact V_lret C rfl dX10_chance_25
  · rw [if_neg c8] at h
    refine V_if_eqF C 22 dX10_chance_9 (by decide) c8 ?_
    refine V_iload_n C 3 dX10_chance_12 rfl rfl ?_
    refine V_i2l C dX10_chance_13 ?_
    refine V_lconst C (w := 0) dX10_chance_14 (by decide) ?_
    refine V_lconst C (w := 1) dX10_chance_15 (by decide) ?_
    obtain ⟨x16, h16, h⟩ := Option.bind_eq_some_iff.mp h
    refine V_callSi (As := [.long (Int32.toInt64 l3), .long 0, .long 1]) C (X10_in_ok h16) mw_X10_in.1 mw_X10_in.2 q10_82 (by omega) rfl rfl rfl (Nat.le_of_ble_eq_true rfl) dX10_chance_16 ?_
    by_cases c9 : x16 = 0
    · rw [if_pos c9] at h
      refine V_if_neF C 26 dX10_chance_19 (by decide) c9 ?_
      refine V_ldc2 C (w := (-4611686018427387904)) dX10_chance_22 qk10_339 ?_
      cases h
      exact V_lret C rfl dX10_chance_25
    · rw [if_neg c9] at h
      refine V_if_neT C 26 dX10_chance_19 (by decide) c9 ?_
      refine V_lconst C (w := 0) dX10_chance_26 (by decide) ?_
      refine V_lstore C (lv' := [(4, .long 0), (0, .ref (G.2.1 0)), (1, .int l1), (2, .int l2), (3, .int l3)]) dX10_chance_27 (by decide) rfl ?_
      refine V_iconst C (w := 0) dX10_chance_29 (by decide) ?_
      refine V_istore C (lv' := [(6, .int 0), (4, .long 0), (0, .ref (G.2.1 0)), (1, .int l1), (2, .int l2), (3, .int l3)]) dX10_chance_30 (by decide) rfl ?_
      refine V_sub (lv' := [(0, .ref (G.2.1 0)), (1, .int l1), (2, .int l2), (3, .int l3), (4, .long 0), (6, .int 0)]) [2, 3, 4, 5, 1, 0] rfl ?_
      exact X10_chance_b32_ok C hd FU h
def X10_image_b27 : Nat → Int32 → St → Option (Int32 × St)
  | 0, _, _ => none
  | F + 1, l1, σ => if 15 ≤ l1 then (some (((up (up (up σ 0 41 (σ.1 0 11)) 0 42 ((up σ 0 41 (σ.1 0 11)).1 0 8)) 0 43 ((up (up σ 0 41 (σ.1 0 11)) 0 42 ((up σ 0 41 (σ.1 0 11)).1 0 8)).1 0 4)).1 0 11), (up (up (up σ 0 41 (σ.1 0 11)) 0 42 ((up σ 0 41 (σ.1 0 11)).1 0 8)) 0 43 ((up (up σ 0 41 (σ.1 0 11)) 0 42 ((up σ 0 41 (σ.1 0 11)).1 0 8)).1 0 4)))) else (if ob l1 15 then none else (if ob l1 15 then none else (X10_image_b27 F (l1 + 1) (up σ 14 (l1).toNatClampNeg (σ.1 6 (l1).toNatClampNeg)))))
set_option maxRecDepth 100000 in
set_option maxHeartbeats 4000000 in
theorem X10_image_b27_ok {G : Gx} {p : Program} {l : Launch} {e : Env} {d : Nat} {s : State} {m : MethodId} {args : Array Value} {below : List Frame} {meth : Method} {c : Code} {A : Nat → Prop} (C : OK shM G p s m args meth c RX10 cX10_image 2 (some FieldType.int) A) (hd : 1 ≤ d) : ∀ (F : Nat) {l1 : Int32} {σ : St} {x : (Int32 × St)} (h : X10_image_b27 F l1 σ = some x), Vw shM G p l e d s m args below meth c 2 A σ 27 [(0, .ref (G.2.1 0)), (1, .int l1)] [] (some (.int x.1)) x.2 := by
  intro F
  induction F with
  | zero =>
    intro l1 σ x h
    rw [X10_image_b27] at h
    cases h
  | succ F ih =>
    intro l1 σ x h
    rw [X10_image_b27] at h
    refine V_iload_n C 1 dX10_image_27 rfl rfl ?_
    refine V_bipush C (w := 15) dX10_image_28 (by decide) ?_
    by_cases c1 : 15 ≤ l1
    · rw [if_pos c1] at h
      refine V_icmp_geT C 51 dX10_image_30 (by decide) c1 ?_
      refine V_aload_n C 0 dX10_image_51 rfl rfl ?_
      refine V_aload_n C 0 dX10_image_52 rfl rfl ?_
      refine fg10_79 C oM_0 dX10_image_53 ?_
      refine fp10_57 C oM_0 dX10_image_56 ?_
      refine V_aload_n C 0 dX10_image_59 rfl rfl ?_
      refine V_aload_n C 0 dX10_image_60 rfl rfl ?_
      refine fg10_274 C oM_0 dX10_image_61 ?_
      refine fp10_341 C oM_0 dX10_image_64 ?_
      refine V_aload_n C 0 dX10_image_67 rfl rfl ?_
      refine V_aload_n C 0 dX10_image_68 rfl rfl ?_
      refine fg10_104 C oM_0 dX10_image_69 ?_
      refine fp10_344 C oM_0 dX10_image_72 ?_
      refine V_aload_n C 0 dX10_image_75 rfl rfl ?_
      refine fg10_79 C oM_0 dX10_image_76 ?_
      cases h
      exact V_iret C rfl rfl dX10_image_79
    · rw [if_neg c1] at h
      refine V_icmp_geF C 51 dX10_image_30 (by decide) c1 ?_
      refine V_aload_n C 0 dX10_image_33 rfl rfl ?_
      refine fg10_54 (r := 14) C oM_0 rfl dX10_image_34 ?_
      refine V_iload_n C 1 dX10_image_37 rfl rfl ?_
      refine V_aload_n C 0 dX10_image_38 rfl rfl ?_
      refine fg10_29 (r := 6) C oM_0 rfl dX10_image_39 ?_
      refine V_iload_n C 1 dX10_image_42 rfl rfl ?_
      have g2 : ¬ (ob l1 15) := fun g9 => by rw [if_pos g9] at h; cases h
      rw [if_neg g2] at h
      refine V_ialdO C oM_6 g2 dX10_image_43 ?_
      have g3 : ¬ (ob l1 15) := fun g9 => by rw [if_pos g9] at h; cases h
      rw [if_neg g3] at h
      refine V_iastO C oM_14 g3 dX10_image_44 ?_
      refine V_iinc C (w := (l1 + 1)) (lv' := [(1, .int (l1 + 1)), (0, .ref (G.2.1 0))]) 1 dX10_image_45 rfl (congrArg (l1 + ·) (show Int32.ofInt 1 = 1 by decide)) (by decide) rfl ?_
      refine V_goto C 27 dX10_image_48 (by decide) ?_
      refine V_sub (lv' := [(0, .ref (G.2.1 0)), (1, .int (l1 + 1))]) [1, 0] rfl ?_
      exact ih h
def X10_image_b2 : Nat → Int32 → St → Option (Int32 × St)
  | 0, _, _ => none
  | F + 1, l1, σ => if 3 ≤ l1 then (X10_image_b27 FU 0 σ) else (if ob l1 3 then none else (if ob l1 3 then none else (X10_image_b2 F (l1 + 1) (up σ 13 (l1).toNatClampNeg (σ.1 4 (l1).toNatClampNeg)))))
set_option maxRecDepth 100000 in
set_option maxHeartbeats 4000000 in
theorem X10_image_b2_ok {G : Gx} {p : Program} {l : Launch} {e : Env} {d : Nat} {s : State} {m : MethodId} {args : Array Value} {below : List Frame} {meth : Method} {c : Code} {A : Nat → Prop} (C : OK shM G p s m args meth c RX10 cX10_image 2 (some FieldType.int) A) (hd : 1 ≤ d) : ∀ (F : Nat) {l1 : Int32} {σ : St} {x : (Int32 × St)} (h : X10_image_b2 F l1 σ = some x), Vw shM G p l e d s m args below meth c 2 A σ 2 [(0, .ref (G.2.1 0)), (1, .int l1)] [] (some (.int x.1)) x.2 := by
  intro F
  induction F with
  | zero =>
    intro l1 σ x h
    rw [X10_image_b2] at h
    cases h
  | succ F ih =>
    intro l1 σ x h
    rw [X10_image_b2] at h
    refine V_iload_n C 1 dX10_image_2 rfl rfl ?_
    refine V_iconst C (w := 3) dX10_image_3 (by decide) ?_
    by_cases c4 : 3 ≤ l1
    · rw [if_pos c4] at h
      refine V_icmp_geT C 25 dX10_image_4 (by decide) c4 ?_
      refine V_iconst C (w := 0) dX10_image_25 (by decide) ?_
      refine V_istore_n C (lv' := [(1, .int 0), (0, .ref (G.2.1 0))]) dX10_image_26 rfl (by decide) rfl ?_
      refine V_sub (lv' := [(0, .ref (G.2.1 0)), (1, .int 0)]) [1, 0] rfl ?_
      exact X10_image_b27_ok C hd FU h
    · rw [if_neg c4] at h
      refine V_icmp_geF C 25 dX10_image_4 (by decide) c4 ?_
      refine V_aload_n C 0 dX10_image_7 rfl rfl ?_
      refine fg10_51 (r := 13) C oM_0 rfl dX10_image_8 ?_
      refine V_iload_n C 1 dX10_image_11 rfl rfl ?_
      refine V_aload_n C 0 dX10_image_12 rfl rfl ?_
      refine fg10_23 (r := 4) C oM_0 rfl dX10_image_13 ?_
      refine V_iload_n C 1 dX10_image_16 rfl rfl ?_
      have g5 : ¬ (ob l1 3) := fun g9 => by rw [if_pos g9] at h; cases h
      rw [if_neg g5] at h
      refine V_ialdO C oM_4 g5 dX10_image_17 ?_
      have g6 : ¬ (ob l1 3) := fun g9 => by rw [if_pos g9] at h; cases h
      rw [if_neg g6] at h
      refine V_iastO C oM_13 g6 dX10_image_18 ?_
      refine V_iinc C (w := (l1 + 1)) (lv' := [(1, .int (l1 + 1)), (0, .ref (G.2.1 0))]) 1 dX10_image_19 rfl (congrArg (l1 + ·) (show Int32.ofInt 1 = 1 by decide)) (by decide) rfl ?_
      refine V_goto C 2 dX10_image_22 (by decide) ?_
      refine V_sub (lv' := [(0, .ref (G.2.1 0)), (1, .int (l1 + 1))]) [1, 0] rfl ?_
      exact ih h
def X10_image (σ : St) : Option (Int32 × St) := X10_image_b2 FU 0 σ
set_option maxRecDepth 100000 in
set_option maxHeartbeats 4000000 in
theorem X10_image_ok {σ : St} {x : (Int32 × St)} (h : X10_image σ = some x) : Ct shM (1) yX10_image cX10_image 2 (some FieldType.int) (fun G => [.ref (G.2.1 0)]) σ (fun G => some (.int x.1)) x.2 := by
  refine Ct.of mw_X10_image.1 (by decide +kernel) (fun G => Nat.le_of_ble_eq_true rfl) (fun G p l e d s m args below meth c A hd C => ?_)
  refine (?_ : Vw shM G p l e d s m args below meth c 2 A σ 0 [(0, .ref (G.2.1 0))] [] (some (.int x.1)) x.2)
  unfold X10_image at h
  refine V_iconst C (w := 0) dX10_image_0 (by decide) ?_
  refine V_istore_n C (lv' := [(1, .int 0), (0, .ref (G.2.1 0))]) dX10_image_1 rfl (by decide) rfl ?_
  refine V_sub (lv' := [(0, .ref (G.2.1 0)), (1, .int 0)]) [1, 0] rfl ?_
  exact X10_image_b2_ok C hd FU h
