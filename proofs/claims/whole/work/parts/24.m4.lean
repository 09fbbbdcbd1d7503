def X10_plays_K : Nat → Int32 → Int32 → St → Option (Int32 × St)
  | 0, _, _, _ => none
  | n + 1, l1, l2, σ => X10_plays (X10_plays_K n) l1 l2 σ
theorem X10_plays_K_ok : ∀ n : Nat, (∀  {l1 : Int32} {l2 : Int32} {σ : St} {x : (Int32 × St)}, X10_plays_K n l1 l2 σ = some x → Ct shM (64 + 1 * n) yX10_plays cX10_plays 6 (some FieldType.int) (fun G => [.ref (G.2.1 0), .int l1, .int l2]) σ (fun G => some (.int x.1)) x.2) := by
  intro n
  induction n with
  | zero => refine fun h => by cases h
  | succ n ih =>
    refine fun h => Ct.mono (show 64 + 1 * n + 1 ≤ 64 + 1 * (n + 1) by omega) (X10_plays_ok (hr := 64 + 1 * n) (rec := X10_plays_K n) (by omega) ih (by exact h))
theorem X10_plays_okK {l1 : Int32} {l2 : Int32} {σ : St} {x : (Int32 × St)} (h : X10_plays (X10_plays_K FR) l1 l2 σ = some x) : Ct shM 73 yX10_plays cX10_plays 6 (some FieldType.int) (fun G => [.ref (G.2.1 0), .int l1, .int l2]) σ (fun G => some (.int x.1)) x.2 := Ct.mono (show 64 + 1 * FR + 1 ≤ 73 by decide) (X10_plays_ok (hr := 64 + 1 * FR) (by omega) (X10_plays_K_ok FR) h)
def X10_turns (l1 : Int32) (σ : St) : Option (Int32 × St) := (X10_in (Int32.toInt64 l1) 0 1).bind (fun x4 => if x4 = 0 then (some ((-2), σ)) else ((X10_begins σ).bind (fun x14 => (X10_everybody (up x14 0 34 (-1))).bind (fun x24 => (X10_plays (X10_plays_K FR) x24 0 (up x14 0 34 (-1))).bind (fun x28 => if l1 = 0 then (some (x28.1, x28.2)) else (some ((x28.2.1 0 34), x28.2)))))))
set_option maxRecDepth 100000 in
set_option maxHeartbeats 4000000 in
theorem X10_turns_ok {l1 : Int32} {σ : St} {x : (Int32 × St)} (h : X10_turns l1 σ = some x) : Ct shM (74) yX10_turns cX10_turns 3 (some FieldType.int) (fun G => [.ref (G.2.1 0), .int l1]) σ (fun G => some (.int x.1)) x.2 := by
  refine Ct.of mw_X10_turns.1 (by decide +kernel) (fun G => Nat.le_of_ble_eq_true rfl) (fun G p l e d s m args below meth c A hd C => ?_)
  refine (?_ : Vw shM G p l e d s m args below meth c 3 A σ 0 [(0, .ref (G.2.1 0)), (1, .int l1)] [] (some (.int x.1)) x.2)
  unfold X10_turns at h
  refine V_iload_n C 1 dX10_turns_0 rfl rfl ?_
  refine V_i2l C dX10_turns_1 ?_
  refine V_lconst C (w := 0) dX10_turns_2 (by decide) ?_
  refine V_lconst C (w := 1) dX10_turns_3 (by decide) ?_
  obtain ⟨x4, h4, h⟩ := Option.bind_eq_some_iff.mp h
  refine V_callSi (As := [.long (Int32.toInt64 l1), .long 0, .long 1]) C (X10_in_ok h4) mw_X10_in.1 mw_X10_in.2 q10_82 (by omega) rfl rfl rfl (Nat.le_of_ble_eq_true rfl) dX10_turns_4 ?_
  by_cases c1 : x4 = 0
  · rw [if_pos c1] at h
    refine V_if_neF C 13 dX10_turns_7 (by decide) c1 ?_
    refine V_bipush C (w := (-2)) dX10_turns_10 (by decide) ?_
    obtain rfl := Option.some.inj h
    exact V_iret C rfl rfl dX10_turns_12
  · rw [if_neg c1] at h
    refine V_if_neT C 13 dX10_turns_7 (by decide) c1 ?_
    refine V_aload_n C 0 dX10_turns_13 rfl rfl ?_
    obtain ⟨x14, h14, h⟩ := Option.bind_eq_some_iff.mp h
    refine V_callVv (As := []) C (X10_begins_ok h14) mw_X10_begins.1 mw_X10_begins.2.1 mw_X10_begins.2.2 q10_113 oM_0.1 oM_0.2.1 (by decide) rfl rfl (by omega) rfl rfl rfl (Nat.le_of_ble_eq_true rfl) dX10_turns_14 ?_
    refine V_aload_n C 0 dX10_turns_17 rfl rfl ?_
    refine V_iconst C (w := (-1)) dX10_turns_18 (by decide) ?_
    refine fp10_307 C oM_0 dX10_turns_19 ?_
    refine V_aload_n C 0 dX10_turns_22 rfl rfl ?_
    refine V_aload_n C 0 dX10_turns_23 rfl rfl ?_
    obtain ⟨x24, h24, h⟩ := Option.bind_eq_some_iff.mp h
    refine V_callVi (As := []) C (X10_everybody_ok h24) mw_X10_everybody.1 mw_X10_everybody.2.1 mw_X10_everybody.2.2 q10_289 oM_0.1 oM_0.2.1 (by decide) rfl rfl (by omega) rfl rfl rfl (Nat.le_of_ble_eq_true rfl) dX10_turns_24 ?_
    refine V_iconst C (w := 0) dX10_turns_27 (by decide) ?_
    obtain ⟨x28, h28, h⟩ := Option.bind_eq_some_iff.mp h
    refine V_callVi (As := [.int x24, .int 0]) C (X10_plays_okK h28) mw_X10_plays.1 mw_X10_plays.2.1 mw_X10_plays.2.2 q10_304 oM_0.1 oM_0.2.1 (by decide) rfl rfl (by omega) rfl rfl rfl (Nat.le_of_ble_eq_true rfl) dX10_turns_28 ?_
    refine V_istore_n C (lv' := [(2, .int x28.1), (0, .ref (G.2.1 0)), (1, .int l1)]) dX10_turns_31 rfl (by decide) rfl ?_
    refine V_iload_n C 2 dX10_turns_32 rfl rfl ?_
    by_cases c2 : l1 = 0
    · rw [if_pos c2] at h
      refine V_if_neF C 40 dX10_turns_33 (by decide) c2 ?_
      refine V_iload_n C 0 dX10_turns_36 rfl rfl ?_
      refine V_goto C 44 dX10_turns_37 (by decide) ?_
      obtain rfl := Option.some.inj h
      exact V_iret C rfl rfl dX10_turns_44
    · rw [if_neg c2] at h
      refine V_if_neT C 40 dX10_turns_33 (by decide) c2 ?_
      refine V_aload_n C 1 dX10_turns_40 rfl rfl ?_
      refine fg10_307 C oM_0 dX10_turns_41 ?_
      obtain rfl := Option.some.inj h
      exact V_iret C rfl rfl dX10_turns_44
def X10_seeksWays_b38 (rec : Int32 → Int32 → Int32 → Int32 → St → Option St) : Nat → Int32 → Int32 → St → Option St
  | 0, _, _, _ => none
  | F + 1, l3, l5, σ => if l3 ≤ l5 then (some σ) else (if ob l5 5 then none else (if ob (σ.1 7 (l5).toNatClampNeg) 5 then none else (if ob (σ.1 7 (l5).toNatClampNeg) 5 then none else (X10_seeksWays_b38 rec F l3 (l5 + 1) (up σ 11 ((σ.1 7 (l5).toNatClampNeg)).toNatClampNeg ((σ.1 11 ((σ.1 7 (l5).toNatClampNeg)).toNatClampNeg) ||| (1 <<< (l5 &&& 31))))))))
set_option maxRecDepth 100000 in
set_option maxHeartbeats 4000000 in
theorem X10_seeksWays_b38_ok {G : Gx} {p : Program} {l : Launch} {e : Env} {d : Nat} {s : State} {m : MethodId} {args : Array Value} {below : List Frame} {meth : Method} {c : Code} {A : Nat → Prop} {hr : Nat} {rec : Int32 → Int32 → Int32 → Int32 → St → Option St} (C : OK shM G p s m args meth c RX10 cX10_seeksWays 6 none A) (hd : hr + 1 ≤ d) (hH : 64 ≤ hr) (hrec0 : ∀  {l1 : Int32} {l2 : Int32} {l3 : Int32} {l4 : Int32} {σ : St} {x : St}, rec l1 l2 l3 l4 σ = some x → Ct shM hr yX10_seeksWays cX10_seeksWays 6 none (fun G => [.ref (G.2.1 0), .int l1, .int l2, .int l3, .int l4]) σ (fun G => none) x) : ∀ (F : Nat) {l3 : Int32} {l5 : Int32} {σ : St} {x : St} (h : X10_seeksWays_b38 rec F l3 l5 σ = some x), Vw shM G p l e d s m args below meth c 6 A σ 38 [(0, .ref (G.2.1 0)), (3, .int l3), (5, .int l5)] [] (none) x := by
  intro F
  induction F with
  | zero =>
    intro l3 l5 σ x h
    rw [X10_seeksWays_b38] at h
    cases h
  | succ F ih =>
    intro l3 l5 σ x h
    rw [X10_seeksWays_b38] at h
    refine V_iload C 2 dX10_seeksWays_38 rfl ?_
    refine V_iload_n C 1 dX10_seeksWays_40 rfl rfl ?_
    by_cases c1 : l3 ≤ l5
    · rw [if_pos c1] at h
      refine V_icmp_geT C 69 dX10_seeksWays_41 (by decide) c1 ?_
      obtain rfl := Option.some.inj h
      exact V_vret C rfl dX10_seeksWays_69
    · rw [if_neg c1] at h
      refine V_icmp_geF C 69 dX10_seeksWays_41 (by decide) c1 ?_
      refine V_aload_n C 0 dX10_seeksWays_44 rfl rfl ?_
      refine fg10_45 (r := 11) C oM_0 rfl dX10_seeksWays_45 ?_
      refine V_aload_n C 0 dX10_seeksWays_48 rfl rfl ?_
      refine fg10_32 (r := 7) C oM_0 rfl dX10_seeksWays_49 ?_
      refine V_iload C 2 dX10_seeksWays_52 rfl ?_
      have g2 : ¬ (ob l5 5) := fun g9 => by rw [if_pos g9] at h; cases h
      rw [if_neg g2] at h
      refine V_ialdO C oM_7 g2 dX10_seeksWays_54 ?_
      refine V_dup2 C dX10_seeksWays_55 rfl rfl ?_
      have g3 : ¬ (ob (σ.1 7 (l5).toNatClampNeg) 5) := fun g9 => by rw [if_pos g9] at h; cases h
      rw [if_neg g3] at h
      refine V_ialdO C oM_11 g3 dX10_seeksWays_56 ?_
      refine V_iconst C (w := 1) dX10_seeksWays_57 (by decide) ?_
      refine V_iload C 2 dX10_seeksWays_58 rfl ?_
      refine V_ishl C dX10_seeksWays_60 ?_
      refine V_ior C dX10_seeksWays_61 ?_
      have g4 : ¬ (ob (σ.1 7 (l5).toNatClampNeg) 5) := fun g9 => by rw [if_pos g9] at h; cases h
      rw [if_neg g4] at h
      refine V_iastO C oM_11 g4 dX10_seeksWays_62 ?_
      refine V_iinc C (w := (l5 + 1)) (lv' := [(5, .int (l5 + 1)), (0, .ref (G.2.1 0)), (3, .int l3)]) 2 dX10_seeksWays_63 rfl (congrArg (l5 + ·) (show Int32.ofInt 1 = 1 by decide)) (by decide) rfl ?_
      refine V_goto C 38 dX10_seeksWays_66 (by decide) ?_
      refine V_sub (lv' := [(0, .ref (G.2.1 0)), (3, .int l3), (5, .int (l5 + 1))]) [1, 2, 0] rfl ?_
      exact ih h
def X10_seeksWays_b32 (rec : Int32 → Int32 → Int32 → Int32 → St → Option St) (l3 : Int32) (s0 : Int32) (σ : St) : Option St := X10_seeksWays_b38 rec FU l3 0 (up σ 0 36 s0)
set_option maxRecDepth 100000 in
set_option maxHeartbeats 4000000 in
theorem X10_seeksWays_b32_ok {G : Gx} {p : Program} {l : Launch} {e : Env} {d : Nat} {s : State} {m : MethodId} {args : Array Value} {below : List Frame} {meth : Method} {c : Code} {A : Nat → Prop} {hr : Nat} {rec : Int32 → Int32 → Int32 → Int32 → St → Option St} (C : OK shM G p s m args meth c RX10 cX10_seeksWays 6 none A) (hd : hr + 1 ≤ d) (hH : 64 ≤ hr) (hrec0 : ∀  {l1 : Int32} {l2 : Int32} {l3 : Int32} {l4 : Int32} {σ : St} {x : St}, rec l1 l2 l3 l4 σ = some x → Ct shM hr yX10_seeksWays cX10_seeksWays 6 none (fun G => [.ref (G.2.1 0), .int l1, .int l2, .int l3, .int l4]) σ (fun G => none) x) {l3 : Int32} {s0 : Int32} {σ : St} {x : St} (h : X10_seeksWays_b32 rec l3 s0 σ = some x) : Vw shM G p l e d s m args below meth c 6 A σ 32 [(0, .ref (G.2.1 0)), (3, .int l3)] [.int s0, .ref (G.2.1 0)] (none) x := by
  unfold X10_seeksWays_b32 at h
  refine fp10_313 C oM_0 dX10_seeksWays_32 ?_
  refine V_iconst C (w := 0) dX10_seeksWays_35 (by decide) ?_
  refine V_istore C (lv' := [(5, .int 0), (0, .ref (G.2.1 0)), (3, .int l3)]) dX10_seeksWays_36 (by decide) rfl ?_
  refine V_sub (lv' := [(0, .ref (G.2.1 0)), (3, .int l3), (5, .int 0)]) [1, 2, 0] rfl ?_
  exact X10_seeksWays_b38_ok C hd hH hrec0 FU h
def X10_seeksWays_b73 (rec : Int32 → Int32 → Int32 → Int32 → St → Option St) : Nat → Int32 → Int32 → Int32 → Int32 → Int32 → St → Option St
  | 0, _, _, _, _, _, _ => none
  | F + 1, l1, l2, l3, l4, l5, σ => if (σ.1 0 11) ≤ l5 then (some σ) else (if ((l2 >>> (l5 &&& 31)) &&& 1) = 1 then ((X10_comes l5 l3 σ).bind (fun x96 => if ob (l3 + 1) 6 then none else (if ob ((40 * l1) + l3) 160 then none else (if (x96.1 8 ((l3 + 1)).toNatClampNeg) = (x96.1 18 (((40 * l1) + l3)).toNatClampNeg) then ((rec l1 (l2 &&& ((1 <<< (l5 &&& 31)) ^^^ (-1))) (l3 + 1) (((10 * l4) + l5) + 1) x96).bind (fun x144 => X10_seeksWays_b73 rec F l1 l2 l3 l4 (l5 + 1) x144)) else (X10_seeksWays_b73 rec F l1 l2 l3 l4 (l5 + 1) x96))))) else (X10_seeksWays_b73 rec F l1 l2 l3 l4 (l5 + 1) σ))
set_option maxRecDepth 100000 in
set_option maxHeartbeats 4000000 in
theorem X10_seeksWays_b73_ok {G : Gx} {p : Program} {l : Launch} {e : Env} {d : Nat} {s : State} {m : MethodId} {args : Array Value} {below : List Frame} {meth : Method} {c : Code} {A : Nat → Prop} {hr : Nat} {rec : Int32 → Int32 → Int32 → Int32 → St → Option St} (C : OK shM G p s m args meth c RX10 cX10_seeksWays 6 none A) (hd : hr + 1 ≤ d) (hH : 64 ≤ hr) (hrec0 : ∀  {l1 : Int32} {l2 : Int32} {l3 : Int32} {l4 : Int32} {σ : St} {x : St}, rec l1 l2 l3 l4 σ = some x → Ct shM hr yX10_seeksWays cX10_seeksWays 6 none (fun G => [.ref (G.2.1 0), .int l1, .int l2, .int l3, .int l4]) σ (fun G => none) x) : ∀ (F : Nat) {l1 : Int32} {l2 : Int32} {l3 : Int32} {l4 : Int32} {l5 : Int32} {σ : St} {x : St} (h : X10_seeksWays_b73 rec F l1 l2 l3 l4 l5 σ = some x), Vw shM G p l e d s m args below meth c 6 A σ 73 [(0, .ref (G.2.1 0)), (1, .int l1), (2, .int l2), (3, .int l3), (4, .int l4), (5, .int l5)] [] (none) x := by
  intro F
  induction F with
  | zero =>
    intro l1 l2 l3 l4 l5 σ x h
    rw [X10_seeksWays_b73] at h
    cases h
  | succ F ih =>
    intro l1 l2 l3 l4 l5 σ x h
    rw [X10_seeksWays_b73] at h
    refine V_iload C 5 dX10_seeksWays_73 rfl ?_
    refine V_aload_n C 0 dX10_seeksWays_75 rfl rfl ?_
    refine fg10_79 C oM_0 dX10_seeksWays_76 ?_
    by_cases c5 : (σ.1 0 11) ≤ l5
    · rw [if_pos c5] at h
      refine V_icmp_geT C 153 dX10_seeksWays_79 (by decide) c5 ?_
      obtain rfl := Option.some.inj h
      exact V_vret C rfl dX10_seeksWays_153
    · rw [if_neg c5] at h
      refine V_icmp_geF C 153 dX10_seeksWays_79 (by decide) c5 ?_
      refine V_iload_n C 2 dX10_seeksWays_82 rfl rfl ?_
      refine V_iload C 5 dX10_seeksWays_83 rfl ?_
      refine V_ishr C dX10_seeksWays_85 ?_
      refine V_iconst C (w := 1) dX10_seeksWays_86 (by decide) ?_
      refine V_iand C dX10_seeksWays_87 ?_
      refine V_iconst C (w := 1) dX10_seeksWays_88 (by decide) ?_
      by_cases c6 : ((l2 >>> (l5 &&& 31)) &&& 1) = 1
      · rw [if_pos c6] at h
        refine V_icmp_neF C 147 dX10_seeksWays_89 (by decide) c6 ?_
        refine V_aload_n C 0 dX10_seeksWays_92 rfl rfl ?_
        refine V_iload C 5 dX10_seeksWays_93 rfl ?_
        refine V_iload_n C 3 dX10_seeksWays_95 rfl rfl ?_
        obtain ⟨x96, h96, h⟩ := Option.bind_eq_some_iff.mp h
        refine V_callVv (As := [.int l5, .int l3]) C (X10_comes_ok h96) mw_X10_comes.1 mw_X10_comes.2.1 mw_X10_comes.2.2 q10_253 oM_0.1 oM_0.2.1 (by decide) rfl rfl (by omega) rfl rfl rfl (Nat.le_of_ble_eq_true rfl) dX10_seeksWays_96 ?_
        refine V_aload_n C 0 dX10_seeksWays_99 rfl rfl ?_
        refine fg10_35 (r := 8) C oM_0 rfl dX10_seeksWays_100 ?_
        refine V_iload_n C 3 dX10_seeksWays_103 rfl rfl ?_
        refine V_iconst C (w := 1) dX10_seeksWays_104 (by decide) ?_
        refine V_iadd C dX10_seeksWays_105 ?_
        have g7 : ¬ (ob (l3 + 1) 6) := fun g9 => by rw [if_pos g9] at h; cases h
        rw [if_neg g7] at h
        refine V_ialdO C oM_8 g7 dX10_seeksWays_106 ?_
        refine V_aload_n C 0 dX10_seeksWays_107 rfl rfl ?_
        refine fg10_69 (r := 18) C oM_0 rfl dX10_seeksWays_108 ?_
        refine V_bipush C (w := 40) dX10_seeksWays_111 (by decide) ?_
        refine V_iload_n C 1 dX10_seeksWays_113 rfl rfl ?_
        refine V_imul C dX10_seeksWays_114 ?_
        refine V_iload_n C 3 dX10_seeksWays_115 rfl rfl ?_
        refine V_iadd C dX10_seeksWays_116 ?_
        have g8 : ¬ (ob ((40 * l1) + l3) 160) := fun g9 => by rw [if_pos g9] at h; cases h
        rw [if_neg g8] at h
        refine V_ialdO C oM_18 g8 dX10_seeksWays_117 ?_
        by_cases c9 : (x96.1 8 ((l3 + 1)).toNatClampNeg) = (x96.1 18 (((40 * l1) + l3)).toNatClampNeg)
        · rw [if_pos c9] at h
          refine V_icmp_neF C 147 dX10_seeksWays_118 (by decide) c9 ?_
          refine V_aload_n C 0 dX10_seeksWays_121 rfl rfl ?_
          refine V_iload_n C 1 dX10_seeksWays_122 rfl rfl ?_
          refine V_iload_n C 2 dX10_seeksWays_123 rfl rfl ?_
          refine V_iconst C (w := 1) dX10_seeksWays_124 (by decide) ?_
          refine V_iload C 5 dX10_seeksWays_125 rfl ?_
          refine V_ishl C dX10_seeksWays_127 ?_
          refine V_iconst C (w := (-1)) dX10_seeksWays_128 (by decide) ?_
          refine V_ixor C dX10_seeksWays_129 ?_
          refine V_iand C dX10_seeksWays_130 ?_
          refine V_iload_n C 3 dX10_seeksWays_131 rfl rfl ?_
          refine V_iconst C (w := 1) dX10_seeksWays_132 (by decide) ?_
          refine V_iadd C dX10_seeksWays_133 ?_
          refine V_bipush C (w := 10) dX10_seeksWays_134 (by decide) ?_
          refine V_iload C 4 dX10_seeksWays_136 rfl ?_
          refine V_imul C dX10_seeksWays_138 ?_
          refine V_iload C 5 dX10_seeksWays_139 rfl ?_
          refine V_iadd C dX10_seeksWays_141 ?_
          refine V_iconst C (w := 1) dX10_seeksWays_142 (by decide) ?_
          refine V_iadd C dX10_seeksWays_143 ?_
          obtain ⟨x144, h144, h⟩ := Option.bind_eq_some_iff.mp h
          refine V_callVv (As := [.int l1, .int (l2 &&& ((1 <<< (l5 &&& 31)) ^^^ (-1))), .int (l3 + 1), .int (((10 * l4) + l5) + 1)]) C (hrec0 h144) mw_X10_seeksWays.1 mw_X10_seeksWays.2.1 mw_X10_seeksWays.2.2 q10_316 oM_0.1 oM_0.2.1 (by decide) rfl rfl (by omega) rfl rfl rfl (Nat.le_of_ble_eq_true rfl) dX10_seeksWays_144 ?_
          refine V_iinc C (w := (l5 + 1)) (lv' := [(5, .int (l5 + 1)), (0, .ref (G.2.1 0)), (1, .int l1), (2, .int l2), (3, .int l3), (4, .int l4)]) 5 dX10_seeksWays_147 rfl (congrArg (l5 + ·) (show Int32.ofInt 1 = 1 by decide)) (by decide) rfl ?_
          refine V_goto C 73 dX10_seeksWays_150 (by decide) ?_
          refine V_sub (lv' := [(0, .ref (G.2.1 0)), (1, .int l1), (2, .int l2), (3, .int l3), (4, .int l4), (5, .int (l5 + 1))]) [1, 2, 3, 4, 5, 0] rfl ?_
          exact ih h
        · rw [if_neg c9] at h
          refine V_icmp_neT C 147 dX10_seeksWays_118 (by decide) c9 ?_
          refine V_iinc C (w := (l5 + 1)) (lv' := [(5, .int (l5 + 1)), (0, .ref (G.2.1 0)), (1, .int l1), (2, .int l2), (3, .int l3), (4, .int l4)]) 5 dX10_seeksWays_147 rfl (congrArg (l5 + ·) (show Int32.ofInt 1 = 1 by decide)) (by decide) rfl ?_
          refine V_goto C 73 dX10_seeksWays_150 (by decide) ?_
          refine V_sub (lv' := [(0, .ref (G.2.1 0)), (1, .int l1), (2, .int l2), (3, .int l3), (4, .int l4), (5, .int (l5 + 1))]) [1, 2, 3, 4, 5, 0] rfl ?_
          exact ih h
      · rw [if_neg c6] at h
        refine V_icmp_neT C 147 dX10_seeksWays_89 (by decide) c6 ?_
        refine V_iinc C (w := (l5 + 1)) (lv' := [(5, .int (l5 + 1)), (0, .ref (G.2.1 0)), (1, .int l1), (2, .int l2), (3, .int l3), (4, .int l4)]) 5 dX10_seeksWays_147 rfl (congrArg (l5 + ·) (show Int32.ofInt 1 = 1 by decide)) (by decide) rfl ?_
        refine V_goto C 73 dX10_seeksWays_150 (by decide) ?_
        refine V_sub (lv' := [(0, .ref (G.2.1 0)), (1, .int l1), (2, .int l2), (3, .int l3), (4, .int l4), (5, .int (l5 + 1))]) [1, 2, 3, 4, 5, 0] rfl ?_
        exact ih h
def X10_seeksWays (rec : Int32 → Int32 → Int32 → Int32 → St → Option St) (l1 : Int32) (l2 : Int32) (l3 : Int32) (l4 : Int32) (σ : St) : Option St := if l2 = 0 then (if ((up σ 0 35 ((σ.1 0 35) + 1)).1 0 35) = 1 then (X10_seeksWays_b32 rec l3 l4 (up σ 0 35 ((σ.1 0 35) + 1))) else (X10_seeksWays_b32 rec l3 ((up σ 0 35 ((σ.1 0 35) + 1)).1 0 36) (up σ 0 35 ((σ.1 0 35) + 1)))) else (X10_seeksWays_b73 rec FU l1 l2 l3 l4 0 σ)
set_option maxRecDepth 100000 in
set_option maxHeartbeats 4000000 in
theorem X10_seeksWays_ok {hr : Nat} {rec : Int32 → Int32 → Int32 → Int32 → St → Option St} (hH : 64 ≤ hr) (hrec0 : ∀  {l1 : Int32} {l2 : Int32} {l3 : Int32} {l4 : Int32} {σ : St} {x : St}, rec l1 l2 l3 l4 σ = some x → Ct shM hr yX10_seeksWays cX10_seeksWays 6 none (fun G => [.ref (G.2.1 0), .int l1, .int l2, .int l3, .int l4]) σ (fun G => none) x) {l1 : Int32} {l2 : Int32} {l3 : Int32} {l4 : Int32} {σ : St} {x : St} (h : X10_seeksWays rec l1 l2 l3 l4 σ = some x) : Ct shM (hr + 1) yX10_seeksWays cX10_seeksWays 6 none (fun G => [.ref (G.2.1 0), .int l1, .int l2, .int l3, .int l4]) σ (fun G => none) x := by
  refine Ct.of mw_X10_seeksWays.1 (by decide +kernel) (fun G => Nat.le_of_ble_eq_true rfl) (fun G p l e d s m args below meth c A hd C => ?_)
  refine (?_ : Vw shM G p l e d s m args below meth c 6 A σ 0 [(0, .ref (G.2.1 0)), (1, .int l1), (2, .int l2), (3, .int l3), (4, .int l4)] [] (none) x)
  unfold X10_seeksWays at h
  refine V_iload_n C 2 dX10_seeksWays_0 rfl rfl ?_
  by_cases c10 : l2 = 0
  · rw [if_pos c10] at h
    refine V_if_neF C 70 dX10_seeksWays_1 (by decide) c10 ?_
    refine V_aload_n C 0 dX10_seeksWays_4 rfl rfl ?_
    refine V_dup C dX10_seeksWays_5 rfl ?_
    refine fg10_310 C oM_0 dX10_seeksWays_6 ?_
    refine V_iconst C (w := 1) dX10_seeksWays_9 (by decide) ?_
    refine V_iadd C dX10_seeksWays_10 ?_
    refine fp10_310 C oM_0 dX10_seeksWays_11 ?_
    refine V_aload_n C 0 dX10_seeksWays_14 rfl rfl ?_
    refine V_aload_n C 0 dX10_seeksWays_15 rfl rfl ?_
    refine fg10_310 C oM_0 dX10_seeksWays_16 ?_
    refine V_iconst C (w := 1) dX10_seeksWays_19 (by decide) ?_
    by_cases c11 : ((up σ 0 35 ((σ.1 0 35) + 1)).1 0 35) = 1
    · rw [if_pos c11] at h
      refine V_icmp_neF C 28 dX10_seeksWays_20 (by decide) c11 ?_
      refine V_iload C 4 dX10_seeksWays_23 rfl ?_
      refine V_goto C 32 dX10_seeksWays_25 (by decide) ?_
      refine V_sub (lv' := [(0, .ref (G.2.1 0)), (3, .int l3)]) [0, 3] rfl ?_
      exact X10_seeksWays_b32_ok C hd hH hrec0 h
    · rw [if_neg c11] at h
      refine V_icmp_neT C 28 dX10_seeksWays_20 (by decide) c11 ?_
      refine V_aload_n C 0 dX10_seeksWays_28 rfl rfl ?_
      refine fg10_313 C oM_0 dX10_seeksWays_29 ?_
      refine V_sub (lv' := [(0, .ref (G.2.1 0)), (3, .int l3)]) [0, 3] rfl ?_
      exact X10_seeksWays_b32_ok C hd hH hrec0 h
  · rw [if_neg c10] at h
    refine V_if_neT C 70 dX10_seeksWays_1 (by decide) c10 ?_
    refine V_iconst C (w := 0) dX10_seeksWays_70 (by decide) ?_
    refine V_istore C (lv' := [(5, .int 0), (0, .ref (G.2.1 0)), (1, .int l1), (2, .int l2), (3, .int l3), (4, .int l4)]) dX10_seeksWays_71 (by decide) rfl ?_
    refine V_sub (lv' := [(0, .ref (G.2.1 0)), (1, .int l1), (2, .int l2), (3, .int l3), (4, .int l4), (5, .int 0)]) [1, 2, 3, 4, 5, 0] rfl ?_
    exact X10_seeksWays_b73_ok C hd hH hrec0 FU h
def X10_seeksWays_K : Nat → Int32 → Int32 → Int32 → Int32 → St → Option St
  | 0, _, _, _, _, _ => none
  | n + 1, l1, l2, l3, l4, σ => X10_seeksWays (X10_seeksWays_K n) l1 l2 l3 l4 σ
theorem X10_seeksWays_K_ok : ∀ n : Nat, (∀  {l1 : Int32} {l2 : Int32} {l3 : Int32} {l4 : Int32} {σ : St} {x : St}, X10_seeksWays_K n l1 l2 l3 l4 σ = some x → Ct shM (64 + 1 * n) yX10_seeksWays cX10_seeksWays 6 none (fun G => [.ref (G.2.1 0), .int l1, .int l2, .int l3, .int l4]) σ (fun G => none) x) := by
  intro n
  induction n with
  | zero => refine fun h => by cases h
  | succ n ih =>
    refine fun h => Ct.mono (show 64 + 1 * n + 1 ≤ 64 + 1 * (n + 1) by omega) (X10_seeksWays_ok (hr := 64 + 1 * n) (rec := X10_seeksWays_K n) (by omega) ih (by exact h))
theorem X10_seeksWays_okK {l1 : Int32} {l2 : Int32} {l3 : Int32} {l4 : Int32} {σ : St} {x : St} (h : X10_seeksWays (X10_seeksWays_K FR) l1 l2 l3 l4 σ = some x) : Ct shM 73 yX10_seeksWays cX10_seeksWays 6 none (fun G => [.ref (G.2.1 0), .int l1, .int l2, .int l3, .int l4]) σ (fun G => none) x := Ct.mono (show 64 + 1 * FR + 1 ≤ 73 by decide) (X10_seeksWays_ok (hr := 64 + 1 * FR) (by omega) (X10_seeksWays_K_ok FR) h)
def X10_firstOther_b6 : Nat → Int32 → Int32 → St → Option (Int32 × St)
  | 0, _, _, _ => none
  | F + 1, l1, l2, σ => if (σ.1 0 11) ≤ l2 then (some ((-1), σ)) else ((X10_comes l2 l2 σ).bind (fun x17 => if ob (l2 + 1) 6 then none else (if ob ((40 * l1) + l2) 160 then none else (if (x17.1 8 ((l2 + 1)).toNatClampNeg) = (x17.1 18 (((40 * l1) + l2)).toNatClampNeg) then (X10_firstOther_b6 F l1 (l2 + 1) x17) else (some (l2, x17))))))
set_option maxRecDepth 100000 in
set_option maxHeartbeats 4000000 in
theorem X10_firstOther_b6_ok {G : Gx} {p : Program} {l : Launch} {e : Env} {d : Nat} {s : State} {m : MethodId} {args : Array Value} {below : List Frame} {meth : Method} {c : Code} {A : Nat → Prop} (C : OK shM G p s m args meth c RX10 cX10_firstOther 3 (some FieldType.int) A) (hd : 64 ≤ d) : ∀ (F : Nat) {l1 : Int32} {l2 : Int32} {σ : St} {x : (Int32 × St)} (h : X10_firstOther_b6 F l1 l2 σ = some x), Vw shM G p l e d s m args below meth c 3 A σ 6 [(0, .ref (G.2.1 0)), (1, .int l1), (2, .int l2)] [] (some (.int x.1)) x.2 := by
  intro F
  induction F with
  | zero =>
    intro l1 l2 σ x h
    rw [X10_firstOther_b6] at h
    cases h
  | succ F ih =>
    intro l1 l2 σ x h
    rw [X10_firstOther_b6] at h
    refine V_iload_n C 2 dX10_firstOther_6 rfl rfl ?_
    refine V_aload_n C 0 dX10_firstOther_7 rfl rfl ?_
    refine fg10_79 C oM_0 dX10_firstOther_8 ?_
    by_cases c1 : (σ.1 0 11) ≤ l2
    · rw [if_pos c1] at h
      refine V_icmp_geT C 50 dX10_firstOther_11 (by decide) c1 ?_
      refine V_iconst C (w := (-1)) dX10_firstOther_50 (by decide) ?_
      obtain rfl := Option.some.inj h
      exact V_iret C rfl rfl dX10_firstOther_51
    · rw [if_neg c1] at h
      refine V_icmp_geF C 50 dX10_firstOther_11 (by decide) c1 ?_
      refine V_aload_n C 0 dX10_firstOther_14 rfl rfl ?_
      refine V_iload_n C 2 dX10_firstOther_15 rfl rfl ?_
      refine V_iload_n C 2 dX10_firstOther_16 rfl rfl ?_
      obtain ⟨x17, h17, h⟩ := Option.bind_eq_some_iff.mp h
      refine V_callVv (As := [.int l2, .int l2]) C (X10_comes_ok h17) mw_X10_comes.1 mw_X10_comes.2.1 mw_X10_comes.2.2 q10_253 oM_0.1 oM_0.2.1 (by decide) rfl rfl (by omega) rfl rfl rfl (Nat.le_of_ble_eq_true rfl) dX10_firstOther_17 ?_
      refine V_aload_n C 0 dX10_firstOther_20 rfl rfl ?_
      refine fg10_35 (r := 8) C oM_0 rfl dX10_firstOther_21 ?_
      refine V_iload_n C 2 dX10_firstOther_24 rfl rfl ?_
      refine V_iconst C (w := 1) dX10_firstOther_25 (by decide) ?_
      refine V_iadd C dX10_firstOther_26 ?_
      have g2 : ¬ (ob (l2 + 1) 6) := fun g9 => by rw [if_pos g9] at h; cases h
      rw [if_neg g2] at h
      refine V_ialdO C oM_8 g2 dX10_firstOther_27 ?_
      refine V_aload_n C 0 dX10_firstOther_28 rfl rfl ?_
      refine fg10_69 (r := 18) C oM_0 rfl dX10_firstOther_29 ?_
      refine V_bipush C (w := 40) dX10_firstOther_32 (by decide) ?_
      refine V_iload_n C 1 dX10_firstOther_34 rfl rfl ?_
      refine V_imul C dX10_firstOther_35 ?_
      refine V_iload_n C 2 dX10_firstOther_36 rfl rfl ?_
      refine V_iadd C dX10_firstOther_37 ?_
      have g3 : ¬ (ob ((40 * l1) + l2) 160) := fun g9 => by rw [if_pos g9] at h; cases h
      rw [if_neg g3] at h
      refine V_ialdO C oM_18 g3 dX10_firstOther_38 ?_
      by_cases c4 : (x17.1 8 ((l2 + 1)).toNatClampNeg) = (x17.1 18 (((40 * l1) + l2)).toNatClampNeg)
      · rw [if_pos c4] at h
        refine V_icmp_eqT C 44 dX10_firstOther_39 (by decide) c4 ?_
        refine V_iinc C (w := (l2 + 1)) (lv' := [(2, .int (l2 + 1)), (0, .ref (G.2.1 0)), (1, .int l1)]) 2 dX10_firstOther_44 rfl (congrArg (l2 + ·) (show Int32.ofInt 1 = 1 by decide)) (by decide) rfl ?_
        refine V_goto C 6 dX10_firstOther_47 (by decide) ?_
        refine V_sub (lv' := [(0, .ref (G.2.1 0)), (1, .int l1), (2, .int (l2 + 1))]) [1, 2, 0] rfl ?_
        exact ih h
      · rw [if_neg c4] at h
        refine V_icmp_eqF C 44 dX10_firstOther_39 (by decide) c4 ?_
        refine V_iload_n C 2 dX10_firstOther_42 rfl rfl ?_
        obtain rfl := Option.some.inj h
        exact V_iret C rfl rfl dX10_firstOther_43
def X10_firstOther (l1 : Int32) (σ : St) : Option (Int32 × St) := (X10_begins σ).bind (fun x1 => X10_firstOther_b6 FU l1 0 x1)
set_option maxRecDepth 100000 in
set_option maxHeartbeats 4000000 in
theorem X10_firstOther_ok {l1 : Int32} {σ : St} {x : (Int32 × St)} (h : X10_firstOther l1 σ = some x) : Ct shM (64) yX10_firstOther cX10_firstOther 3 (some FieldType.int) (fun G => [.ref (G.2.1 0), .int l1]) σ (fun G => some (.int x.1)) x.2 := by
  refine Ct.of mw_X10_firstOther.1 (by decide +kernel) (fun G => Nat.le_of_ble_eq_true rfl) (fun G p l e d s m args below meth c A hd C => ?_)
  refine (?_ : Vw shM G p l e d s m args below meth c 3 A σ 0 [(0, .ref (G.2.1 0)), (1, .int l1)] [] (some (.int x.1)) x.2)
  unfold X10_firstOther at h
  refine V_aload_n C 0 dX10_firstOther_0 rfl rfl ?_
  obtain ⟨x1, h1, h⟩ := Option.bind_eq_some_iff.mp h
  refine V_callVv (As := []) C (X10_begins_ok h1) mw_X10_begins.1 mw_X10_begins.2.1 mw_X10_begins.2.2 q10_113 oM_0.1 oM_0.2.1 (by decide) rfl rfl (by omega) rfl rfl rfl (Nat.le_of_ble_eq_true rfl) dX10_firstOther_1 ?_
  refine V_iconst C (w := 0) dX10_firstOther_4 (by decide) ?_
  refine V_istore_n C (lv' := [(2, .int 0), (0, .ref (G.2.1 0)), (1, .int l1)]) dX10_firstOther_5 rfl (by decide) rfl ?_
  refine V_sub (lv' := [(0, .ref (G.2.1 0)), (1, .int l1), (2, .int 0)]) [1, 2, 0] rfl ?_
  exact X10_firstOther_b6_ok C hd FU h
def X10_sure_b45 (K4 : Int32 → Int32 → St → Option Int32) (l2 : Int32) (s0 : Int32) (s1 : Int32) (σ : St) : Option Int32 := K4 (s1 ||| (s0 <<< (l2 &&& 31))) (l2 + 1) σ
set_option maxRecDepth 100000 in
set_option maxHeartbeats 4000000 in
theorem X10_sure_b45_ok {G : Gx} {p : Program} {l : Launch} {e : Env} {d : Nat} {s : State} {m : MethodId} {args : Array Value} {below : List Frame} {meth : Method} {c : Code} {A : Nat → Prop} {K4 : Int32 → Int32 → St → Option Int32} (C : OK shM G p s m args meth c RX10 cX10_sure 3 (some FieldType.int) A) (hd : 1 ≤ d) (hK4 : ∀  {l1 : Int32} {l2 : Int32} {σ : St} {x : Int32}, K4 l1 l2 σ = some x → Vw shM G p l e d s m args below meth c 3 A σ 4 [(0, .ref (G.2.1 0)), (1, .int l1), (2, .int l2)] [] (some (.int x)) σ) {l2 : Int32} {s0 : Int32} {s1 : Int32} {σ : St} {x : Int32} (h : X10_sure_b45 K4 l2 s0 s1 σ = some x) : Vw shM G p l e d s m args below meth c 3 A σ 45 [(0, .ref (G.2.1 0)), (2, .int l2)] [.int s0, .int s1] (some (.int x)) σ := by
  unfold X10_sure_b45 at h
  refine V_iload_n C 1 dX10_sure_45 rfl rfl ?_
  refine V_ishl C dX10_sure_46 ?_
  refine V_ior C dX10_sure_47 ?_
  refine V_istore_n C (lv' := [(1, .int (s1 ||| (s0 <<< (l2 &&& 31)))), (0, .ref (G.2.1 0)), (2, .int l2)]) dX10_sure_48 rfl (by decide) rfl ?_
  refine V_iinc C (w := (l2 + 1)) (lv' := [(2, .int (l2 + 1)), (1, .int (s1 ||| (s0 <<< (l2 &&& 31)))), (0, .ref (G.2.1 0))]) 2 dX10_sure_49 rfl (congrArg (l2 + ·) (show Int32.ofInt 1 = 1 by decide)) (by decide) rfl ?_
  refine V_goto C 4 dX10_sure_52 (by decide) ?_
  refine V_sub (lv' := [(0, .ref (G.2.1 0)), (1, .int (s1 ||| (s0 <<< (l2 &&& 31)))), (2, .int (l2 + 1))]) [2, 1, 0] rfl ?_
  exact hK4 h
def X10_sure_b4 : Nat → Int32 → Int32 → St → Option Int32
  | 0, _, _, _ => none
  | F + 1, l1, l2, σ => if (σ.1 0 11) ≤ l2 then (some l1) else (if ob l2 5 then none else (if (σ.1 11 (l2).toNatClampNeg) = 0 then (X10_sure_b45 (X10_sure_b4 F) l2 0 l1 σ) else (if ob l2 5 then none else (if ob l2 5 then none else (if ((σ.1 11 (l2).toNatClampNeg) &&& ((σ.1 11 (l2).toNatClampNeg) - 1)) = 0 then (X10_sure_b45 (X10_sure_b4 F) l2 1 l1 σ) else (X10_sure_b45 (X10_sure_b4 F) l2 0 l1 σ))))))
set_option maxRecDepth 100000 in
set_option maxHeartbeats 4000000 in
theorem X10_sure_b4_ok {G : Gx} {p : Program} {l : Launch} {e : Env} {d : Nat} {s : State} {m : MethodId} {args : Array Value} {below : List Frame} {meth : Method} {c : Code} {A : Nat → Prop} (C : OK shM G p s m args meth c RX10 cX10_sure 3 (some FieldType.int) A) (hd : 1 ≤ d) : ∀ (F : Nat) {l1 : Int32} {l2 : Int32} {σ : St} {x : Int32} (h : X10_sure_b4 F l1 l2 σ = some x), Vw shM G p l e d s m args below meth c 3 A σ 4 [(0, .ref (G.2.1 0)), (1, .int l1), (2, .int l2)] [] (some (.int x)) σ := by
  intro F
  induction F with
  | zero =>
    intro l1 l2 σ x h
    rw [X10_sure_b4] at h
    cases h
  | succ F ih =>
    intro l1 l2 σ x h
    rw [X10_sure_b4] at h
    refine V_iload_n C 2 dX10_sure_4 rfl rfl ?_
    refine V_aload_n C 0 dX10_sure_5 rfl rfl ?_
    refine fg10_79 C oM_0 dX10_sure_6 ?_
    by_cases c1 : (σ.1 0 11) ≤ l2
    · rw [if_pos c1] at h
      refine V_icmp_geT C 55 dX10_sure_9 (by decide) c1 ?_
      refine V_iload_n C 1 dX10_sure_55 rfl rfl ?_
      obtain rfl := Option.some.inj h
      exact V_iret C rfl rfl dX10_sure_56
    · rw [if_neg c1] at h
      refine V_icmp_geF C 55 dX10_sure_9 (by decide) c1 ?_
      refine V_iload_n C 1 dX10_sure_12 rfl rfl ?_
      refine V_aload_n C 0 dX10_sure_13 rfl rfl ?_
      refine fg10_45 (r := 11) C oM_0 rfl dX10_sure_14 ?_
      refine V_iload_n C 2 dX10_sure_17 rfl rfl ?_
      have g2 : ¬ (ob l2 5) := fun g9 => by rw [if_pos g9] at h; cases h
      rw [if_neg g2] at h
      refine V_ialdO C oM_11 g2 dX10_sure_18 ?_
      by_cases c3 : (σ.1 11 (l2).toNatClampNeg) = 0
      · rw [if_pos c3] at h
        refine V_if_eqT C 44 dX10_sure_19 (by decide) c3 ?_
        refine V_iconst C (w := 0) dX10_sure_44 (by decide) ?_
        refine V_sub (lv' := [(0, .ref (G.2.1 0)), (2, .int l2)]) [0, 2] rfl ?_
        exact X10_sure_b45_ok C hd (fun h => ih h) h
      · rw [if_neg c3] at h
        refine V_if_eqF C 44 dX10_sure_19 (by decide) c3 ?_
        refine V_aload_n C 0 dX10_sure_22 rfl rfl ?_
        refine fg10_45 (r := 11) C oM_0 rfl dX10_sure_23 ?_
        refine V_iload_n C 2 dX10_sure_26 rfl rfl ?_
        have g4 : ¬ (ob l2 5) := fun g9 => by rw [if_pos g9] at h; cases h
        rw [if_neg g4] at h
        refine V_ialdO C oM_11 g4 dX10_sure_27 ?_
        refine V_aload_n C 0 dX10_sure_28 rfl rfl ?_
        refine fg10_45 (r := 11) C oM_0 rfl dX10_sure_29 ?_
        refine V_iload_n C 2 dX10_sure_32 rfl rfl ?_
        have g5 : ¬ (ob l2 5) := fun g9 => by rw [if_pos g9] at h; cases h
        rw [if_neg g5] at h
        refine V_ialdO C oM_11 g5 dX10_sure_33 ?_
        refine V_iconst C (w := 1) dX10_sure_34 (by decide) ?_
        refine V_isub C dX10_sure_35 ?_
        refine V_iand C dX10_sure_36 ?_
        by_cases c6 : ((σ.1 11 (l2).toNatClampNeg) &&& ((σ.1 11 (l2).toNatClampNeg) - 1)) = 0
        · rw [if_pos c6] at h
          refine V_if_neF C 44 dX10_sure_37 (by decide) c6 ?_
          refine V_iconst C (w := 1) dX10_sure_40 (by decide) ?_
          refine V_goto C 45 dX10_sure_41 (by decide) ?_
          refine V_sub (lv' := [(0, .ref (G.2.1 0)), (2, .int l2)]) [0, 2] rfl ?_
          exact X10_sure_b45_ok C hd (fun h => ih h) h
        · rw [if_neg c6] at h
          refine V_if_neT C 44 dX10_sure_37 (by decide) c6 ?_
          refine V_iconst C (w := 0) dX10_sure_44 (by decide) ?_
          refine V_sub (lv' := [(0, .ref (G.2.1 0)), (2, .int l2)]) [0, 2] rfl ?_
          exact X10_sure_b45_ok C hd (fun h => ih h) h
def X10_sure (σ : St) : Option Int32 := X10_sure_b4 FU 0 0 σ
set_option maxRecDepth 100000 in
set_option maxHeartbeats 4000000 in
theorem X10_sure_ok {σ : St} {x : Int32} (h : X10_sure σ = some x) : Ct shM (1) yX10_sure cX10_sure 3 (some FieldType.int) (fun G => [.ref (G.2.1 0)]) σ (fun G => some (.int x)) σ := by
  refine Ct.of mw_X10_sure.1 (by decide +kernel) (fun G => Nat.le_of_ble_eq_true rfl) (fun G p l e d s m args below meth c A hd C => ?_)
  refine (?_ : Vw shM G p l e d s m args below meth c 3 A σ 0 [(0, .ref (G.2.1 0))] [] (some (.int x)) σ)
  unfold X10_sure at h
  refine V_iconst C (w := 0) dX10_sure_0 (by decide) ?_
  refine V_istore_n C (lv' := [(1, .int 0), (0, .ref (G.2.1 0))]) dX10_sure_1 rfl (by decide) rfl ?_
  refine V_iconst C (w := 0) dX10_sure_2 (by decide) ?_
  refine V_istore_n C (lv' := [(2, .int 0), (1, .int 0), (0, .ref (G.2.1 0))]) dX10_sure_3 rfl (by decide) rfl ?_
  refine V_sub (lv' := [(0, .ref (G.2.1 0)), (1, .int 0), (2, .int 0)]) [2, 1, 0] rfl ?_
  exact X10_sure_b4_ok C hd FU h
def X10_tells_b114 : Nat → Int32 → Int32 → Int32 → St → Option (Int32 × St)
  | 0, _, _, _, _ => none
  | F + 1, l1, l2, l4, σ => if (σ.1 0 11) ≤ l4 then ((X10_begins σ).bind (fun x138 => (X10_everybody x138).bind (fun x144 => (X10_seeksWays (X10_seeksWays_K FR) l1 x144 0 0 x138).bind (fun x149 => if l2 = 0 then (some ((x149.1 0 35), x149)) else (if l2 = 1 then (some ((x149.1 0 36), x149)) else ((X10_sure x149).bind (fun x176 => some (x176, x149)))))))) else (if ob l4 5 then none else (X10_tells_b114 F l1 l2 (l4 + 1) (up σ 11 (l4).toNatClampNeg 0)))
set_option maxRecDepth 100000 in
set_option maxHeartbeats 4000000 in
theorem X10_tells_b114_ok {G : Gx} {p : Program} {l : Launch} {e : Env} {d : Nat} {s : State} {m : MethodId} {args : Array Value} {below : List Frame} {meth : Method} {c : Code} {A : Nat → Prop} (C : OK shM G p s m args meth c RX10 cX10_tells 10 (some FieldType.int) A) (hd : 74 ≤ d) : ∀ (F : Nat) {l1 : Int32} {l2 : Int32} {l4 : Int32} {σ : St} {x : (Int32 × St)} (h : X10_tells_b114 F l1 l2 l4 σ = some x), Vw shM G p l e d s m args below meth c 10 A σ 114 [(0, .ref (G.2.1 0)), (1, .int l1), (2, .int l2), (4, .int l4)] [] (some (.int x.1)) x.2 := by
  intro F
  induction F with
  | zero =>
    intro l1 l2 l4 σ x h
    rw [X10_tells_b114] at h
    cases h
  | succ F ih =>
    intro l1 l2 l4 σ x h
    rw [X10_tells_b114] at h
    refine V_iload C 3 dX10_tells_114 rfl ?_
    refine V_aload_n C 0 dX10_tells_116 rfl rfl ?_
    refine fg10_79 C oM_0 dX10_tells_117 ?_
    by_cases c1 : (σ.1 0 11) ≤ l4
    · rw [if_pos c1] at h
      refine V_icmp_geT C 137 dX10_tells_120 (by decide) c1 ?_
      refine V_aload_n C 0 dX10_tells_137 rfl rfl ?_
      obtain ⟨x138, h138, h⟩ := Option.bind_eq_some_iff.mp h
      refine V_callVv (As := []) C (X10_begins_ok h138) mw_X10_begins.1 mw_X10_begins.2.1 mw_X10_begins.2.2 q10_113 oM_0.1 oM_0.2.1 (by decide) rfl rfl (by omega) rfl rfl rfl (Nat.le_of_ble_eq_true rfl) dX10_tells_138 ?_
      refine V_aload_n C 0 dX10_tells_141 rfl rfl ?_
      refine V_iload_n C 1 dX10_tells_142 rfl rfl ?_
      refine V_aload_n C 0 dX10_tells_143 rfl rfl ?_
      obtain ⟨x144, h144, h⟩ := Option.bind_eq_some_iff.mp h
      refine V_callVi (As := []) C (X10_everybody_ok h144) mw_X10_everybody.1 mw_X10_everybody.2.1 mw_X10_everybody.2.2 q10_289 oM_0.1 oM_0.2.1 (by decide) rfl rfl (by omega) rfl rfl rfl (Nat.le_of_ble_eq_true rfl) dX10_tells_144 ?_
      refine V_iconst C (w := 0) dX10_tells_147 (by decide) ?_
      refine V_iconst C (w := 0) dX10_tells_148 (by decide) ?_
      obtain ⟨x149, h149, h⟩ := Option.bind_eq_some_iff.mp h
      refine V_callVv (As := [.int l1, .int x144, .int 0, .int 0]) C (X10_seeksWays_okK h149) mw_X10_seeksWays.1 mw_X10_seeksWays.2.1 mw_X10_seeksWays.2.2 q10_316 oM_0.1 oM_0.2.1 (by decide) rfl rfl (by omega) rfl rfl rfl (Nat.le_of_ble_eq_true rfl) dX10_tells_149 ?_
      refine V_iload_n C 2 dX10_tells_152 rfl rfl ?_
      by_cases c2 : l2 = 0
      · rw [if_pos c2] at h
        refine V_if_neF C 163 dX10_tells_153 (by decide) c2 ?_
        refine V_aload_n C 0 dX10_tells_156 rfl rfl ?_
        refine fg10_310 C oM_0 dX10_tells_157 ?_
        refine V_goto C 179 dX10_tells_160 (by decide) ?_
        obtain rfl := Option.some.inj h
        exact V_iret C rfl rfl dX10_tells_179
      · rw [if_neg c2] at h
        refine V_if_neT C 163 dX10_tells_153 (by decide) c2 ?_
        refine V_iload_n C 2 dX10_tells_163 rfl rfl ?_
        refine V_iconst C (w := 1) dX10_tells_164 (by decide) ?_
        by_cases c3 : l2 = 1
        · rw [if_pos c3] at h
          refine V_icmp_neF C 175 dX10_tells_165 (by decide) c3 ?_
          refine V_aload_n C 0 dX10_tells_168 rfl rfl ?_
          refine fg10_313 C oM_0 dX10_tells_169 ?_
          refine V_goto C 179 dX10_tells_172 (by decide) ?_
          obtain rfl := Option.some.inj h
          exact V_iret C rfl rfl dX10_tells_179
        · rw [if_neg c3] at h
          refine V_icmp_neT C 175 dX10_tells_165 (by decide) c3 ?_
          refine V_aload_n C 0 dX10_tells_175 rfl rfl ?_
          obtain ⟨x176, h176, h⟩ := Option.bind_eq_some_iff.mp h
          refine V_callVi (As := []) C (X10_sure_ok h176) mw_X10_sure.1 mw_X10_sure.2.1 mw_X10_sure.2.2 q10_327 oM_0.1 oM_0.2.1 (by decide) rfl rfl (by omega) rfl rfl rfl (Nat.le_of_ble_eq_true rfl) dX10_tells_176 ?_
          obtain rfl := Option.some.inj h
          exact V_iret C rfl rfl dX10_tells_179
    · rw [if_neg c1] at h
      refine V_icmp_geF C 137 dX10_tells_120 (by decide) c1 ?_
      refine V_aload_n C 0 dX10_tells_123 rfl rfl ?_
      refine fg10_45 (r := 11) C oM_0 rfl dX10_tells_124 ?_
      refine V_iload C 3 dX10_tells_127 rfl ?_
      refine V_iconst C (w := 0) dX10_tells_129 (by decide) ?_
      have g4 : ¬ (ob l4 5) := fun g9 => by rw [if_pos g9] at h; cases h
      rw [if_neg g4] at h
      refine V_iastO C oM_11 g4 dX10_tells_130 ?_
      refine V_iinc C (w := (l4 + 1)) (lv' := [(4, .int (l4 + 1)), (0, .ref (G.2.1 0)), (1, .int l1), (2, .int l2)]) 3 dX10_tells_131 rfl (congrArg (l4 + ·) (show Int32.ofInt 1 = 1 by decide)) (by decide) rfl ?_
      refine V_goto C 114 dX10_tells_134 (by decide) ?_
      refine V_sub (lv' := [(0, .ref (G.2.1 0)), (1, .int l1), (2, .int l2), (4, .int (l4 + 1))]) [1, 2, 3, 0] rfl ?_
      exact ih h
def X10_tells_b317 (K284 : Int32 → Int32 → Int32 → Int32 → Int32 → Int32 → Int32 → St → Option (Int32 × St)) (l1 : Int32) (l4 : Int32) (l5 : Int32) (l6 : Int32) (l7 : Int32) (l9 : Int32) (s0 : Int32) (s1 : Int32) (σ : St) : Option (Int32 × St) := K284 l1 l4 l5 l6 l7 (s1 ||| (s0 <<< (l9 &&& 31))) (l9 + 1) σ
set_option maxRecDepth 100000 in
set_option maxHeartbeats 4000000 in
theorem X10_tells_b317_ok {G : Gx} {p : Program} {l : Launch} {e : Env} {d : Nat} {s : State} {m : MethodId} {args : Array Value} {below : List Frame} {meth : Method} {c : Code} {A : Nat → Prop} {K284 : Int32 → Int32 → Int32 → Int32 → Int32 → Int32 → Int32 → St → Option (Int32 × St)} (C : OK shM G p s m args meth c RX10 cX10_tells 10 (some FieldType.int) A) (hd : 74 ≤ d) (hK284 : ∀  {l1 : Int32} {l4 : Int32} {l5 : Int32} {l6 : Int32} {l7 : Int32} {l8 : Int32} {l9 : Int32} {σ : St} {x : (Int32 × St)}, K284 l1 l4 l5 l6 l7 l8 l9 σ = some x → Vw shM G p l e d s m args below meth c 10 A σ 284 [(0, .ref (G.2.1 0)), (1, .int l1), (4, .int l4), (5, .int l5), (6, .int l6), (7, .int l7), (8, .int l8), (9, .int l9)] [] (some (.int x.1)) x.2) {l1 : Int32} {l4 : Int32} {l5 : Int32} {l6 : Int32} {l7 : Int32} {l9 : Int32} {s0 : Int32} {s1 : Int32} {σ : St} {x : (Int32 × St)} (h : X10_tells_b317 K284 l1 l4 l5 l6 l7 l9 s0 s1 σ = some x) : Vw shM G p l e d s m args below meth c 10 A σ 317 [(0, .ref (G.2.1 0)), (1, .int l1), (4, .int l4), (5, .int l5), (6, .int l6), (7, .int l7), (9, .int l9)] [.int s0, .int s1] (some (.int x.1)) x.2 := by
  unfold X10_tells_b317 at h
  refine V_iload C 6 dX10_tells_317 rfl ?_
  refine V_ishl C dX10_tells_319 ?_
  refine V_ior C dX10_tells_320 ?_
  refine V_istore C (lv' := [(8, .int (s1 ||| (s0 <<< (l9 &&& 31)))), (0, .ref (G.2.1 0)), (1, .int l1), (4, .int l4), (5, .int l5), (6, .int l6), (7, .int l7), (9, .int l9)]) dX10_tells_321 (by decide) rfl ?_
  refine V_iinc C (w := (l9 + 1)) (lv' := [(9, .int (l9 + 1)), (8, .int (s1 ||| (s0 <<< (l9 &&& 31)))), (0, .ref (G.2.1 0)), (1, .int l1), (4, .int l4), (5, .int l5), (6, .int l6), (7, .int l7)]) 7 dX10_tells_323 rfl (congrArg (l9 + ·) (show Int32.ofInt 1 = 1 by decide)) (by decide) rfl ?_
  refine V_goto C 284 dX10_tells_326 (by decide) ?_
  refine V_sub (lv' := [(0, .ref (G.2.1 0)), (1, .int l1), (4, .int l4), (5, .int l5), (6, .int l6), (7, .int l7), (8, .int (s1 ||| (s0 <<< (l9 &&& 31)))), (9, .int (l9 + 1))]) [2, 3, 4, 5, 6, 7, 1, 0] rfl ?_
  exact hK284 h
def X10_tells_b284 : Nat → Int32 → Int32 → Int32 → Int32 → Int32 → Int32 → Int32 → St → Option (Int32 × St)
  | 0, _, _, _, _, _, _, _, _ => none
  | F + 1, l1, l4, l5, l6, l7, l8, l9, σ => if l7 < l9 then ((X10_lays l5 l4 l6 σ).bind (fun x336 => some (l8, x336))) else ((X10_lays l5 l4 l9 σ).bind (fun x298 => (X10_firstOther l1 x298).bind (fun x305 => if x305.1 = (-1) then (X10_tells_b317 (X10_tells_b284 F) l1 l4 l5 l6 l7 l9 1 l8 x305.2) else (X10_tells_b317 (X10_tells_b284 F) l1 l4 l5 l6 l7 l9 0 l8 x305.2))))
set_option maxRecDepth 100000 in
set_option maxHeartbeats 4000000 in
theorem X10_tells_b284_ok {G : Gx} {p : Program} {l : Launch} {e : Env} {d : Nat} {s : State} {m : MethodId} {args : Array Value} {below : List Frame} {meth : Method} {c : Code} {A : Nat → Prop} (C : OK shM G p s m args meth c RX10 cX10_tells 10 (some FieldType.int) A) (hd : 74 ≤ d) : ∀ (F : Nat) {l1 : Int32} {l4 : Int32} {l5 : Int32} {l6 : Int32} {l7 : Int32} {l8 : Int32} {l9 : Int32} {σ : St} {x : (Int32 × St)} (h : X10_tells_b284 F l1 l4 l5 l6 l7 l8 l9 σ = some x), Vw shM G p l e d s m args below meth c 10 A σ 284 [(0, .ref (G.2.1 0)), (1, .int l1), (4, .int l4), (5, .int l5), (6, .int l6), (7, .int l7), (8, .int l8), (9, .int l9)] [] (some (.int x.1)) x.2 := by
  intro F
  induction F with
  | zero =>
    intro l1 l4 l5 l6 l7 l8 l9 σ x h
    rw [X10_tells_b284] at h
    cases h
  | succ F ih =>
    intro l1 l4 l5 l6 l7 l8 l9 σ x h
    rw [X10_tells_b284] at h
    refine V_iload C 7 dX10_tells_284 rfl ?_
    refine V_iload C 5 dX10_tells_286 rfl ?_
    by_cases c5 : l7 < l9
    · rw [if_pos c5] at h
      refine V_icmp_gtT C 329 dX10_tells_288 (by decide) c5 ?_
      refine V_aload_n C 0 dX10_tells_329 rfl rfl ?_
      refine V_iload C 3 dX10_tells_330 rfl ?_
      refine V_iload C 2 dX10_tells_332 rfl ?_
      refine V_iload C 4 dX10_tells_334 rfl ?_
      obtain ⟨x336, h336, h⟩ := Option.bind_eq_some_iff.mp h
      refine V_callVv (As := [.int l5, .int l4, .int l6]) C (X10_lays_ok h336) mw_X10_lays.1 mw_X10_lays.2.1 mw_X10_lays.2.2 q10_100 oM_0.1 oM_0.2.1 (by decide) rfl rfl (by omega) rfl rfl rfl (Nat.le_of_ble_eq_true rfl) dX10_tells_336 ?_
      refine V_iload C 6 dX10_tells_339 rfl ?_
      obtain rfl := Option.some.inj h
      exact V_iret C rfl rfl dX10_tells_341
    · rw [if_neg c5] at h
      refine V_icmp_gtF C 329 dX10_tells_288 (by decide) c5 ?_
      refine V_aload_n C 0 dX10_tells_291 rfl rfl ?_
      refine V_iload C 3 dX10_tells_292 rfl ?_
      refine V_iload C 2 dX10_tells_294 rfl ?_
      refine V_iload C 7 dX10_tells_296 rfl ?_
      obtain ⟨x298, h298, h⟩ := Option.bind_eq_some_iff.mp h
      refine V_callVv (As := [.int l5, .int l4, .int l9]) C (X10_lays_ok h298) mw_X10_lays.1 mw_X10_lays.2.1 mw_X10_lays.2.2 q10_100 oM_0.1 oM_0.2.1 (by decide) rfl rfl (by omega) rfl rfl rfl (Nat.le_of_ble_eq_true rfl) dX10_tells_298 ?_
      refine V_iload C 6 dX10_tells_301 rfl ?_
      refine V_aload_n C 0 dX10_tells_303 rfl rfl ?_
      refine V_iload_n C 1 dX10_tells_304 rfl rfl ?_
      obtain ⟨x305, h305, h⟩ := Option.bind_eq_some_iff.mp h
      refine V_callVi (As := [.int l1]) C (X10_firstOther_ok h305) mw_X10_firstOther.1 mw_X10_firstOther.2.1 mw_X10_firstOther.2.2 q10_324 oM_0.1 oM_0.2.1 (by decide) rfl rfl (by omega) rfl rfl rfl (Nat.le_of_ble_eq_true rfl) dX10_tells_305 ?_
      refine V_iconst C (w := (-1)) dX10_tells_308 (by decide) ?_
      by_cases c6 : x305.1 = (-1)
      · rw [if_pos c6] at h
        refine V_icmp_neF C 316 dX10_tells_309 (by decide) c6 ?_
        refine V_iconst C (w := 1) dX10_tells_312 (by decide) ?_
        refine V_goto C 317 dX10_tells_313 (by decide) ?_
        refine V_sub (lv' := [(0, .ref (G.2.1 0)), (1, .int l1), (4, .int l4), (5, .int l5), (6, .int l6), (7, .int l7), (9, .int l9)]) [0, 1, 2, 3, 4, 5, 7] rfl ?_
        exact X10_tells_b317_ok C hd (fun h => ih h) h
      · rw [if_neg c6] at h
        refine V_icmp_neT C 316 dX10_tells_309 (by decide) c6 ?_
        refine V_iconst C (w := 0) dX10_tells_316 (by decide) ?_
        refine V_sub (lv' := [(0, .ref (G.2.1 0)), (1, .int l1), (4, .int l4), (5, .int l5), (6, .int l6), (7, .int l7), (9, .int l9)]) [0, 1, 2, 3, 4, 5, 7] rfl ?_
        exact X10_tells_b317_ok C hd (fun h => ih h) h
def X10_tells_b276 (l1 : Int32) (l4 : Int32) (l5 : Int32) (l6 : Int32) (s0 : Int32) (σ : St) : Option (Int32 × St) := X10_tells_b284 FU l1 l4 l5 l6 s0 0 0 σ
set_option maxRecDepth 100000 in
set_option maxHeartbeats 4000000 in
theorem X10_tells_b276_ok {G : Gx} {p : Program} {l : Launch} {e : Env} {d : Nat} {s : State} {m : MethodId} {args : Array Value} {below : List Frame} {meth : Method} {c : Code} {A : Nat → Prop} (C : OK shM G p s m args meth c RX10 cX10_tells 10 (some FieldType.int) A) (hd : 74 ≤ d) {l1 : Int32} {l4 : Int32} {l5 : Int32} {l6 : Int32} {s0 : Int32} {σ : St} {x : (Int32 × St)} (h : X10_tells_b276 l1 l4 l5 l6 s0 σ = some x) : Vw shM G p l e d s m args below meth c 10 A σ 276 [(0, .ref (G.2.1 0)), (1, .int l1), (4, .int l4), (5, .int l5), (6, .int l6)] [.int s0] (some (.int x.1)) x.2 := by
  unfold X10_tells_b276 at h
  refine V_istore C (lv' := [(7, .int s0), (0, .ref (G.2.1 0)), (1, .int l1), (4, .int l4), (5, .int l5), (6, .int l6)]) dX10_tells_276 (by decide) rfl ?_
  refine V_iconst C (w := 0) dX10_tells_278 (by decide) ?_
  refine V_istore C (lv' := [(8, .int 0), (7, .int s0), (0, .ref (G.2.1 0)), (1, .int l1), (4, .int l4), (5, .int l5), (6, .int l6)]) dX10_tells_279 (by decide) rfl ?_
  refine V_iconst C (w := 0) dX10_tells_281 (by decide) ?_
  refine V_istore C (lv' := [(9, .int 0), (8, .int 0), (7, .int s0), (0, .ref (G.2.1 0)), (1, .int l1), (4, .int l4), (5, .int l5), (6, .int l6)]) dX10_tells_282 (by decide) rfl ?_
  refine V_sub (lv' := [(0, .ref (G.2.1 0)), (1, .int l1), (4, .int l4), (5, .int l5), (6, .int l6), (7, .int s0), (8, .int 0), (9, .int 0)]) [3, 4, 5, 6, 7, 2, 1, 0] rfl ?_
  exact X10_tells_b284_ok C hd FU h
def X10_tells_b242 (l1 : Int32) (l4 : Int32) (l5 : Int32) (s0 : Int32) (σ : St) : Option (Int32 × St) := if l5 = 7 then (X10_tells_b276 l1 l4 l5 s0 ((σ.1 0 3) - 1) σ) else (if l5 = 6 then (X10_tells_b276 l1 l4 l5 s0 5 σ) else ((X10_mostOf l5).bind (fun x273 => X10_tells_b276 l1 l4 l5 s0 x273 σ)))
set_option maxRecDepth 100000 in
set_option maxHeartbeats 4000000 in
theorem X10_tells_b242_ok {G : Gx} {p : Program} {l : Launch} {e : Env} {d : Nat} {s : State} {m : MethodId} {args : Array Value} {below : List Frame} {meth : Method} {c : Code} {A : Nat → Prop} (C : OK shM G p s m args meth c RX10 cX10_tells 10 (some FieldType.int) A) (hd : 74 ≤ d) {l1 : Int32} {l4 : Int32} {l5 : Int32} {s0 : Int32} {σ : St} {x : (Int32 × St)} (h : X10_tells_b242 l1 l4 l5 s0 σ = some x) : Vw shM G p l e d s m args below meth c 10 A σ 242 [(0, .ref (G.2.1 0)), (1, .int l1), (4, .int l4), (5, .int l5)] [.int s0] (some (.int x.1)) x.2 := by
  unfold X10_tells_b242 at h
  refine V_istore C (lv' := [(6, .int s0), (0, .ref (G.2.1 0)), (1, .int l1), (4, .int l4), (5, .int l5)]) dX10_tells_242 (by decide) rfl ?_
  refine V_iload C 4 dX10_tells_244 rfl ?_
  refine V_bipush C (w := 7) dX10_tells_246 (by decide) ?_
  by_cases c7 : l5 = 7
  · rw [if_pos c7] at h
    refine V_icmp_neF C 260 dX10_tells_248 (by decide) c7 ?_
    refine V_aload_n C 1 dX10_tells_251 rfl rfl ?_
    refine fg10_76 C oM_0 dX10_tells_252 ?_
    refine V_iconst C (w := 1) dX10_tells_255 (by decide) ?_
    refine V_isub C dX10_tells_256 ?_
    refine V_goto C 276 dX10_tells_257 (by decide) ?_
    refine V_sub (lv' := [(0, .ref (G.2.1 0)), (1, .int l1), (4, .int l4), (5, .int l5), (6, .int s0)]) [1, 2, 3, 4, 0] rfl ?_
    exact X10_tells_b276_ok C hd h
  · rw [if_neg c7] at h
    refine V_icmp_neT C 260 dX10_tells_248 (by decide) c7 ?_
    refine V_iload C 4 dX10_tells_260 rfl ?_
    refine V_bipush C (w := 6) dX10_tells_262 (by decide) ?_
    by_cases c8 : l5 = 6
    · rw [if_pos c8] at h
      refine V_icmp_neF C 271 dX10_tells_264 (by decide) c8 ?_
      refine V_iconst C (w := 5) dX10_tells_267 (by decide) ?_
      refine V_goto C 276 dX10_tells_268 (by decide) ?_
      refine V_sub (lv' := [(0, .ref (G.2.1 0)), (1, .int l1), (4, .int l4), (5, .int l5), (6, .int s0)]) [1, 2, 3, 4, 0] rfl ?_
      exact X10_tells_b276_ok C hd h
    · rw [if_neg c8] at h
      refine V_icmp_neT C 271 dX10_tells_264 (by decide) c8 ?_
      refine V_iload C 4 dX10_tells_271 rfl ?_
      obtain ⟨x273, h273, h⟩ := Option.bind_eq_some_iff.mp h
      refine V_callSi (As := [.int l5]) C (X10_mostOf_ok h273) mw_X10_mostOf.1 mw_X10_mostOf.2 q10_92 (by omega) rfl rfl rfl (Nat.le_of_ble_eq_true rfl) dX10_tells_273 ?_
      refine V_sub (lv' := [(0, .ref (G.2.1 0)), (1, .int l1), (4, .int l4), (5, .int l5), (6, .int s0)]) [1, 2, 3, 4, 0] rfl ?_
      exact X10_tells_b276_ok C hd h
def X10_tells_b218 (l1 : Int32) (l4 : Int32) (s0 : Int32) (σ : St) : Option (Int32 × St) := if s0 = 7 then (X10_tells_b242 l1 l4 s0 (σ.1 0 4) σ) else ((X10_told l4 s0 σ).bind (fun x239 => X10_tells_b242 l1 l4 s0 x239.1 x239.2))
set_option maxRecDepth 100000 in
set_option maxHeartbeats 4000000 in
theorem X10_tells_b218_ok {G : Gx} {p : Program} {l : Launch} {e : Env} {d : Nat} {s : State} {m : MethodId} {args : Array Value} {below : List Frame} {meth : Method} {c : Code} {A : Nat → Prop} (C : OK shM G p s m args meth c RX10 cX10_tells 10 (some FieldType.int) A) (hd : 74 ≤ d) {l1 : Int32} {l4 : Int32} {s0 : Int32} {σ : St} {x : (Int32 × St)} (h : X10_tells_b218 l1 l4 s0 σ = some x) : Vw shM G p l e d s m args below meth c 10 A σ 218 [(0, .ref (G.2.1 0)), (1, .int l1), (4, .int l4)] [.int s0] (some (.int x.1)) x.2 := by
  unfold X10_tells_b218 at h
  refine V_istore C (lv' := [(5, .int s0), (0, .ref (G.2.1 0)), (1, .int l1), (4, .int l4)]) dX10_tells_218 (by decide) rfl ?_
  refine V_iload C 0 dX10_tells_220 rfl ?_
  refine V_bipush C (w := 7) dX10_tells_222 (by decide) ?_
  by_cases c9 : s0 = 7
  · rw [if_pos c9] at h
    refine V_icmp_neF C 234 dX10_tells_224 (by decide) c9 ?_
    refine V_aload_n C 1 dX10_tells_227 rfl rfl ?_
    refine fg10_104 C oM_0 dX10_tells_228 ?_
    refine V_goto C 242 dX10_tells_231 (by decide) ?_
    refine V_sub (lv' := [(0, .ref (G.2.1 0)), (1, .int l1), (4, .int l4), (5, .int s0)]) [1, 2, 3, 0] rfl ?_
    exact X10_tells_b242_ok C hd h
  · rw [if_neg c9] at h
    refine V_icmp_neT C 234 dX10_tells_224 (by decide) c9 ?_
    refine V_aload_n C 1 dX10_tells_234 rfl rfl ?_
    refine V_iload C 3 dX10_tells_235 rfl ?_
    refine V_iload C 0 dX10_tells_237 rfl ?_
    obtain ⟨x239, h239, h⟩ := Option.bind_eq_some_iff.mp h
    refine V_callVi (As := [.int l4, .int s0]) C (X10_told_ok h239) mw_X10_told.1 mw_X10_told.2.1 mw_X10_told.2.2 q10_96 oM_0.1 oM_0.2.1 (by decide) rfl rfl (by omega) rfl rfl rfl (Nat.le_of_ble_eq_true rfl) dX10_tells_239 ?_
    refine V_sub (lv' := [(0, .ref (G.2.1 0)), (1, .int l1), (4, .int l4), (5, .int s0)]) [1, 2, 3, 0] rfl ?_
    exact X10_tells_b242_ok C hd h
def X10_tells_b57 (l1 : Int32) (l2 : Int32) (σ : St) : Option (Int32 × St) := if ob l1 4 then none else (if (σ.1 15 (l1).toNatClampNeg) = 0 then (some ((-11), σ)) else (if ob l1 4 then none else (if (σ.1 17 (l1).toNatClampNeg) = (σ.1 0 11) then (if l2 = 3 then ((X10_firstOther l1 σ).bind (fun x92 => some (x92.1, x92.2))) else (if 3 ≤ l2 then (if l2 = 4 then (X10_tells_b218 l1 (l2 - l2 / 10 * 10) 7 σ) else (if 20 ≤ l2 then (if 30 ≤ l2 then (X10_tells_b218 l1 (l2 - l2 / 10 * 10) 4 σ) else (X10_tells_b218 l1 (l2 - l2 / 10 * 10) 3 σ)) else (X10_tells_b218 l1 (l2 - l2 / 10 * 10) 6 σ))) else (X10_tells_b114 FU l1 l2 0 (up (up σ 0 35 0) 0 36 0)))) else (some ((-2), σ)))))
set_option maxRecDepth 100000 in
set_option maxHeartbeats 4000000 in
theorem X10_tells_b57_ok {G : Gx} {p : Program} {l : Launch} {e : Env} {d : Nat} {s : State} {m : MethodId} {args : Array Value} {below : List Frame} {meth : Method} {c : Code} {A : Nat → Prop} (C : OK shM G p s m args meth c RX10 cX10_tells 10 (some FieldType.int) A) (hd : 74 ≤ d) {l1 : Int32} {l2 : Int32} {σ : St} {x : (Int32 × St)} (h : X10_tells_b57 l1 l2 σ = some x) : Vw shM G p l e d s m args below meth c 10 A σ 57 [(0, .ref (G.2.1 0)), (1, .int l1), (2, .int l2)] [] (some (.int x.1)) x.2 := by
  unfold X10_tells_b57 at h
  refine V_aload_n C 0 dX10_tells_57 rfl rfl ?_
  refine fg10_60 (r := 15) C oM_0 rfl dX10_tells_58 ?_
  refine V_iload_n C 1 dX10_tells_61 rfl rfl ?_
  have g10 : ¬ (ob l1 4) := fun g9 => by rw [if_pos g9] at h; cases h
  rw [if_neg g10] at h
  refine V_zaldO C oM_15 g10 dX10_tells_62 ?_
  by_cases c11 : (σ.1 15 (l1).toNatClampNeg) = 0
  · rw [if_pos c11] at h
    refine V_if_neF C 69 dX10_tells_63 (by decide) c11 ?_
    refine V_bipush C (w := (-11)) dX10_tells_66 (by decide) ?_
    obtain rfl := Option.some.inj h
    exact V_iret C rfl rfl dX10_tells_68
  · rw [if_neg c11] at h
    refine V_if_neT C 69 dX10_tells_63 (by decide) c11 ?_
    refine V_aload_n C 0 dX10_tells_69 rfl rfl ?_
    refine fg10_66 (r := 17) C oM_0 rfl dX10_tells_70 ?_
    refine V_iload_n C 1 dX10_tells_73 rfl rfl ?_
    have g12 : ¬ (ob l1 4) := fun g9 => by rw [if_pos g9] at h; cases h
    rw [if_neg g12] at h
    refine V_ialdO C oM_17 g12 dX10_tells_74 ?_
    refine V_aload_n C 0 dX10_tells_75 rfl rfl ?_
    refine fg10_79 C oM_0 dX10_tells_76 ?_
    by_cases c13 : (σ.1 17 (l1).toNatClampNeg) = (σ.1 0 11)
    · rw [if_pos c13] at h
      refine V_icmp_eqT C 85 dX10_tells_79 (by decide) c13 ?_
      refine V_iload_n C 2 dX10_tells_85 rfl rfl ?_
      refine V_iconst C (w := 3) dX10_tells_86 (by decide) ?_
      by_cases c14 : l2 = 3
      · rw [if_pos c14] at h
        refine V_icmp_neF C 96 dX10_tells_87 (by decide) c14 ?_
        refine V_aload_n C 0 dX10_tells_90 rfl rfl ?_
        refine V_iload_n C 1 dX10_tells_91 rfl rfl ?_
        obtain ⟨x92, h92, h⟩ := Option.bind_eq_some_iff.mp h
        refine V_callVi (As := [.int l1]) C (X10_firstOther_ok h92) mw_X10_firstOther.1 mw_X10_firstOther.2.1 mw_X10_firstOther.2.2 q10_324 oM_0.1 oM_0.2.1 (by decide) rfl rfl (by omega) rfl rfl rfl (Nat.le_of_ble_eq_true rfl) dX10_tells_92 ?_
        obtain rfl := Option.some.inj h
        exact V_iret C rfl rfl dX10_tells_95
      · rw [if_neg c14] at h
        refine V_icmp_neT C 96 dX10_tells_87 (by decide) c14 ?_
        refine V_iload_n C 2 dX10_tells_96 rfl rfl ?_
        refine V_iconst C (w := 3) dX10_tells_97 (by decide) ?_
        by_cases c15 : 3 ≤ l2
        · rw [if_pos c15] at h
          refine V_icmp_geT C 180 dX10_tells_98 (by decide) c15 ?_
          refine V_iload_n C 2 dX10_tells_180 rfl rfl ?_
          refine V_bipush C (w := 10) dX10_tells_181 (by decide) ?_
          refine V_irem C dX10_tells_183 (by decide) ?_
          refine V_istore C (lv' := [(4, .int (l2 - l2 / 10 * 10)), (0, .ref (G.2.1 0)), (1, .int l1), (2, .int l2)]) dX10_tells_184 (by decide) rfl ?_
          refine V_iload_n C 3 dX10_tells_186 rfl rfl ?_
          refine V_iconst C (w := 4) dX10_tells_187 (by decide) ?_
          by_cases c16 : l2 = 4
          · rw [if_pos c16] at h
            refine V_icmp_neF C 196 dX10_tells_188 (by decide) c16 ?_
            refine V_bipush C (w := 7) dX10_tells_191 (by decide) ?_
            refine V_goto C 218 dX10_tells_193 (by decide) ?_
            refine V_sub (lv' := [(0, .ref (G.2.1 0)), (1, .int l1), (4, .int (l2 - l2 / 10 * 10))]) [1, 2, 0] rfl ?_
            exact X10_tells_b218_ok C hd h
          · rw [if_neg c16] at h
            refine V_icmp_neT C 196 dX10_tells_188 (by decide) c16 ?_
            refine V_iload_n C 3 dX10_tells_196 rfl rfl ?_
            refine V_bipush C (w := 20) dX10_tells_197 (by decide) ?_
            by_cases c17 : 20 ≤ l2
            · rw [if_pos c17] at h
              refine V_icmp_geT C 207 dX10_tells_199 (by decide) c17 ?_
              refine V_iload_n C 3 dX10_tells_207 rfl rfl ?_
              refine V_bipush C (w := 30) dX10_tells_208 (by decide) ?_
              by_cases c18 : 30 ≤ l2
              · rw [if_pos c18] at h
                refine V_icmp_geT C 217 dX10_tells_210 (by decide) c18 ?_
                refine V_iconst C (w := 4) dX10_tells_217 (by decide) ?_
                refine V_sub (lv' := [(0, .ref (G.2.1 0)), (1, .int l1), (4, .int (l2 - l2 / 10 * 10))]) [1, 2, 0] rfl ?_
                exact X10_tells_b218_ok C hd h
              · rw [if_neg c18] at h
                refine V_icmp_geF C 217 dX10_tells_210 (by decide) c18 ?_
                refine V_iconst C (w := 3) dX10_tells_213 (by decide) ?_
                refine V_goto C 218 dX10_tells_214 (by decide) ?_
                refine V_sub (lv' := [(0, .ref (G.2.1 0)), (1, .int l1), (4, .int (l2 - l2 / 10 * 10))]) [1, 2, 0] rfl ?_
                exact X10_tells_b218_ok C hd h
            · rw [if_neg c17] at h
              refine V_icmp_geF C 207 dX10_tells_199 (by decide) c17 ?_
              refine V_bipush C (w := 6) dX10_tells_202 (by decide) ?_
              refine V_goto C 218 dX10_tells_204 (by decide) ?_
              refine V_sub (lv' := [(0, .ref (G.2.1 0)), (1, .int l1), (4, .int (l2 - l2 / 10 * 10))]) [1, 2, 0] rfl ?_
              exact X10_tells_b218_ok C hd h
        · rw [if_neg c15] at h
          refine V_icmp_geF C 180 dX10_tells_98 (by decide) c15 ?_
          refine V_aload_n C 0 dX10_tells_101 rfl rfl ?_
          refine V_iconst C (w := 0) dX10_tells_102 (by decide) ?_
          refine fp10_310 C oM_0 dX10_tells_103 ?_
          refine V_aload_n C 0 dX10_tells_106 rfl rfl ?_
          refine V_iconst C (w := 0) dX10_tells_107 (by decide) ?_
          refine fp10_313 C oM_0 dX10_tells_108 ?_
          refine V_iconst C (w := 0) dX10_tells_111 (by decide) ?_
          refine V_istore C (lv' := [(4, .int 0), (0, .ref (G.2.1 0)), (1, .int l1), (2, .int l2)]) dX10_tells_112 (by decide) rfl ?_
          refine V_sub (lv' := [(0, .ref (G.2.1 0)), (1, .int l1), (2, .int l2), (4, .int 0)]) [1, 2, 3, 0] rfl ?_
          exact X10_tells_b114_ok C hd FU h
    · rw [if_neg c13] at h
      refine V_icmp_eqF C 85 dX10_tells_79 (by decide) c13 ?_
      refine V_bipush C (w := (-2)) dX10_tells_82 (by decide) ?_
      obtain rfl := Option.some.inj h
      exact V_iret C rfl rfl dX10_tells_84
def X10_tells_b30 (l1 : Int32) (l2 : Int32) (s0 : Int32) (σ : St) : Option (Int32 × St) := (X10_isSheet l1).bind (fun x32 => if x32 = 0 then (some ((-2), σ)) else ((X10_in (Int32.toInt64 l2) 0 4).bind (fun x44 => if x44 = 0 then (if s0 = 0 then (some ((-2), σ)) else (X10_tells_b57 l1 l2 σ)) else (X10_tells_b57 l1 l2 σ))))
set_option maxRecDepth 100000 in
set_option maxHeartbeats 4000000 in
theorem X10_tells_b30_ok {G : Gx} {p : Program} {l : Launch} {e : Env} {d : Nat} {s : State} {m : MethodId} {args : Array Value} {below : List Frame} {meth : Method} {c : Code} {A : Nat → Prop} (C : OK shM G p s m args meth c RX10 cX10_tells 10 (some FieldType.int) A) (hd : 74 ≤ d) {l1 : Int32} {l2 : Int32} {s0 : Int32} {σ : St} {x : (Int32 × St)} (h : X10_tells_b30 l1 l2 s0 σ = some x) : Vw shM G p l e d s m args below meth c 10 A σ 30 [(0, .ref (G.2.1 0)), (1, .int l1), (2, .int l2)] [.int s0] (some (.int x.1)) x.2 := by
  unfold X10_tells_b30 at h
  refine V_istore_n C (lv' := [(3, .int s0), (0, .ref (G.2.1 0)), (1, .int l1), (2, .int l2)]) dX10_tells_30 rfl (by decide) rfl ?_
  refine V_iload_n C 2 dX10_tells_31 rfl rfl ?_
  obtain ⟨x32, h32, h⟩ := Option.bind_eq_some_iff.mp h
  refine V_callSi (As := [.int l1]) C (X10_isSheet_ok h32) mw_X10_isSheet.1 mw_X10_isSheet.2 q10_256 (by omega) rfl rfl rfl (Nat.le_of_ble_eq_true rfl) dX10_tells_32 ?_
  by_cases c19 : x32 = 0
  · rw [if_pos c19] at h
    refine V_if_eqT C 54 dX10_tells_35 (by decide) c19 ?_
    refine V_bipush C (w := (-2)) dX10_tells_54 (by decide) ?_
    obtain rfl := Option.some.inj h
    exact V_iret C rfl rfl dX10_tells_56
  · rw [if_neg c19] at h
    refine V_if_eqF C 54 dX10_tells_35 (by decide) c19 ?_
    refine V_iload_n C 3 dX10_tells_38 rfl rfl ?_
    refine V_i2l C dX10_tells_39 ?_
    refine V_lconst C (w := 0) dX10_tells_40 (by decide) ?_
    refine V_ldc2 C (w := 4) dX10_tells_41 qk10_322 ?_
    obtain ⟨x44, h44, h⟩ := Option.bind_eq_some_iff.mp h
    refine V_callSi (As := [.long (Int32.toInt64 l2), .long 0, .long 4]) C (X10_in_ok h44) mw_X10_in.1 mw_X10_in.2 q10_82 (by omega) rfl rfl rfl (Nat.le_of_ble_eq_true rfl) dX10_tells_44 ?_
    by_cases c20 : x44 = 0
    · rw [if_pos c20] at h
      refine V_if_neF C 57 dX10_tells_47 (by decide) c20 ?_
      refine V_iload_n C 0 dX10_tells_50 rfl rfl ?_
      by_cases c21 : s0 = 0
      · rw [if_pos c21] at h
        refine V_if_neF C 57 dX10_tells_51 (by decide) c21 ?_
        refine V_bipush C (w := (-2)) dX10_tells_54 (by decide) ?_
        obtain rfl := Option.some.inj h
        exact V_iret C rfl rfl dX10_tells_56
      · rw [if_neg c21] at h
        refine V_if_neT C 57 dX10_tells_51 (by decide) c21 ?_
        refine V_sub (lv' := [(0, .ref (G.2.1 0)), (1, .int l1), (2, .int l2)]) [1, 2, 3] rfl ?_
        exact X10_tells_b57_ok C hd h
    · rw [if_neg c20] at h
      refine V_if_neT C 57 dX10_tells_47 (by decide) c20 ?_
      refine V_sub (lv' := [(0, .ref (G.2.1 0)), (1, .int l1), (2, .int l2)]) [1, 2, 3] rfl ?_
      exact X10_tells_b57_ok C hd h
def X10_tells (l1 : Int32) (l2 : Int32) (σ : St) : Option (Int32 × St) := (X10_in (Int32.toInt64 l2) 10 39).bind (fun x8 => if x8 = 0 then (X10_tells_b30 l1 l2 0 σ) else ((X10_isOne (l2 - l2 / 10 * 10) σ).bind (fun x19 => if x19 = 0 then (X10_tells_b30 l1 l2 0 σ) else (X10_tells_b30 l1 l2 1 σ))))
set_option maxRecDepth 100000 in
set_option maxHeartbeats 4000000 in
theorem X10_tells_ok {l1 : Int32} {l2 : Int32} {σ : St} {x : (Int32 × St)} (h : X10_tells l1 l2 σ = some x) : Ct shM (74) yX10_tells cX10_tells 10 (some FieldType.int) (fun G => [.ref (G.2.1 0), .int l1, .int l2]) σ (fun G => some (.int x.1)) x.2 := by
  refine Ct.of mw_X10_tells.1 (by decide +kernel) (fun G => Nat.le_of_ble_eq_true rfl) (fun G p l e d s m args below meth c A hd C => ?_)
  refine (?_ : Vw shM G p l e d s m args below meth c 10 A σ 0 [(0, .ref (G.2.1 0)), (1, .int l1), (2, .int l2)] [] (some (.int x.1)) x.2)
  unfold X10_tells at h
  refine V_iload_n C 2 dX10_tells_0 rfl rfl ?_
  refine V_i2l C dX10_tells_1 ?_
  refine V_ldc2 C (w := 10) dX10_tells_2 qk10_162 ?_
  refine V_ldc2 C (w := 39) dX10_tells_5 qk10_320 ?_
  obtain ⟨x8, h8, h⟩ := Option.bind_eq_some_iff.mp h
  refine V_callSi (As := [.long (Int32.toInt64 l2), .long 10, .long 39]) C (X10_in_ok h8) mw_X10_in.1 mw_X10_in.2 q10_82 (by omega) rfl rfl rfl (Nat.le_of_ble_eq_true rfl) dX10_tells_8 ?_
  by_cases c22 : x8 = 0
  · rw [if_pos c22] at h
    refine V_if_eqT C 29 dX10_tells_11 (by decide) c22 ?_
    refine V_iconst C (w := 0) dX10_tells_29 (by decide) ?_
    exact X10_tells_b30_ok C hd h
  · rw [if_neg c22] at h
    refine V_if_eqF C 29 dX10_tells_11 (by decide) c22 ?_
    refine V_aload_n C 0 dX10_tells_14 rfl rfl ?_
    refine V_iload_n C 2 dX10_tells_15 rfl rfl ?_
    refine V_bipush C (w := 10) dX10_tells_16 (by decide) ?_
    refine V_irem C dX10_tells_18 (by decide) ?_
    obtain ⟨x19, h19, h⟩ := Option.bind_eq_some_iff.mp h
    refine V_callVi (As := [.int (l2 - l2 / 10 * 10)]) C (X10_isOne_ok h19) mw_X10_isOne.1 mw_X10_isOne.2.1 mw_X10_isOne.2.2 q10_88 oM_0.1 oM_0.2.1 (by decide) rfl rfl (by omega) rfl rfl rfl (Nat.le_of_ble_eq_true rfl) dX10_tells_19 ?_
    by_cases c23 : x19 = 0
    · rw [if_pos c23] at h
      refine V_if_eqT C 29 dX10_tells_22 (by decide) c23 ?_
      refine V_iconst C (w := 0) dX10_tells_29 (by decide) ?_
      exact X10_tells_b30_ok C hd h
    · rw [if_neg c23] at h
      refine V_if_eqF C 29 dX10_tells_22 (by decide) c23 ?_
      refine V_iconst C (w := 1) dX10_tells_25 (by decide) ?_
      refine V_goto C 30 dX10_tells_26 (by decide) ?_
      exact X10_tells_b30_ok C hd h
def X10_sheet_b77 : Nat → Int32 → Int32 → Int32 → Int32 → St → Option (Int32 × St)
  | 0, _, _, _, _, _ => none
  | F + 1, l1, l2, l3, l4, σ => if l3 ≤ l4 then (some (1, σ)) else (if l2 < 0 then (some (1, σ)) else (if ob ((40 * l1) + l4) 160 then none else (X10_sheet_b77 F l1 l2 l3 (l4 + 1) (up σ 18 (((40 * l1) + l4)).toNatClampNeg 0))))
set_option maxRecDepth 100000 in
set_option maxHeartbeats 4000000 in
theorem X10_sheet_b77_ok {G : Gx} {p : Program} {l : Launch} {e : Env} {d : Nat} {s : State} {m : MethodId} {args : Array Value} {below : List Frame} {meth : Method} {c : Code} {A : Nat → Prop} (C : OK shM G p s m args meth c RX10 cX10_sheet 5 (some FieldType.int) A) (hd : 3 ≤ d) : ∀ (F : Nat) {l1 : Int32} {l2 : Int32} {l3 : Int32} {l4 : Int32} {σ : St} {x : (Int32 × St)} (h : X10_sheet_b77 F l1 l2 l3 l4 σ = some x), Vw shM G p l e d s m args below meth c 5 A σ 77 [(0, .ref (G.2.1 0)), (1, .int l1), (2, .int l2), (3, .int l3), (4, .int l4)] [] (some (.int x.1)) x.2 := by
  intro F
  induction F with
  | zero =>
    intro l1 l2 l3 l4 σ x h
    rw [X10_sheet_b77] at h
    cases h
  | succ F ih =>
    intro l1 l2 l3 l4 σ x h
    rw [X10_sheet_b77] at h
    refine V_iload C 4 dX10_sheet_77 rfl ?_
    refine V_iload_n C 3 dX10_sheet_79 rfl rfl ?_
    by_cases c1 : l3 ≤ l4
    · rw [if_pos c1] at h
      refine V_icmp_geT C 106 dX10_sheet_80 (by decide) c1 ?_
      refine V_iconst C (w := 1) dX10_sheet_106 (by decide) ?_
      obtain rfl := Option.some.inj h
      exact V_iret C rfl rfl dX10_sheet_107
    · rw [if_neg c1] at h
      refine V_icmp_geF C 106 dX10_sheet_80 (by decide) c1 ?_
      refine V_iload_n C 2 dX10_sheet_83 rfl rfl ?_
      by_cases c2 : l2 < 0
      · rw [if_pos c2] at h
        refine V_if_ltT C 106 dX10_sheet_84 (by decide) c2 ?_
        refine V_iconst C (w := 1) dX10_sheet_106 (by decide) ?_
        obtain rfl := Option.some.inj h
        exact V_iret C rfl rfl dX10_sheet_107
      · rw [if_neg c2] at h
        refine V_if_ltF C 106 dX10_sheet_84 (by decide) c2 ?_
        refine V_aload_n C 0 dX10_sheet_87 rfl rfl ?_
        refine fg10_69 (r := 18) C oM_0 rfl dX10_sheet_88 ?_
        refine V_bipush C (w := 40) dX10_sheet_91 (by decide) ?_
        refine V_iload_n C 1 dX10_sheet_93 rfl rfl ?_
        refine V_imul C dX10_sheet_94 ?_
        refine V_iload C 4 dX10_sheet_95 rfl ?_
        refine V_iadd C dX10_sheet_97 ?_
        refine V_iconst C (w := 0) dX10_sheet_98 (by decide) ?_
        have g3 : ¬ (ob ((40 * l1) + l4) 160) := fun g9 => by rw [if_pos g9] at h; cases h
        rw [if_neg g3] at h
        refine V_iastO C oM_18 g3 dX10_sheet_99 ?_
        refine V_iinc C (w := (l4 + 1)) (lv' := [(4, .int (l4 + 1)), (0, .ref (G.2.1 0)), (1, .int l1), (2, .int l2), (3, .int l3)]) 4 dX10_sheet_100 rfl (congrArg (l4 + ·) (show Int32.ofInt 1 = 1 by decide)) (by decide) rfl ?_
        refine V_goto C 77 dX10_sheet_103 (by decide) ?_
        refine V_sub (lv' := [(0, .ref (G.2.1 0)), (1, .int l1), (2, .int l2), (3, .int l3), (4, .int (l4 + 1))]) [1, 2, 3, 4, 0] rfl ?_
        exact ih h
def X10_sheet_b59 (l1 : Int32) (l2 : Int32) (l3 : Int32) (s0 : Int32) (s1 : Int32) (σ : St) : Option (Int32 × St) := if ob s1 4 then none else (if ob l1 4 then none else (if ob l1 4 then none else (X10_sheet_b77 FU l1 l2 l3 0 (up (up (up σ 15 (s1).toNatClampNeg (vp_nar .boolean s0)) 16 (l1).toNatClampNeg l2) 17 (l1).toNatClampNeg l3))))
set_option maxRecDepth 100000 in
set_option maxHeartbeats 4000000 in
theorem X10_sheet_b59_ok {G : Gx} {p : Program} {l : Launch} {e : Env} {d : Nat} {s : State} {m : MethodId} {args : Array Value} {below : List Frame} {meth : Method} {c : Code} {A : Nat → Prop} (C : OK shM G p s m args meth c RX10 cX10_sheet 5 (some FieldType.int) A) (hd : 3 ≤ d) {l1 : Int32} {l2 : Int32} {l3 : Int32} {s0 : Int32} {s1 : Int32} {σ : St} {x : (Int32 × St)} (h : X10_sheet_b59 l1 l2 l3 s0 s1 σ = some x) : Vw shM G p l e d s m args below meth c 5 A σ 59 [(0, .ref (G.2.1 0)), (1, .int l1), (2, .int l2), (3, .int l3)] [.int s0, .int s1, .ref (G.2.1 15)] (some (.int x.1)) x.2 := by
  unfold X10_sheet_b59 at h
  have g4 : ¬ (ob s1 4) := fun g9 => by rw [if_pos g9] at h; cases h
  rw [if_neg g4] at h
  refine V_zastO C oM_15 g4 dX10_sheet_59 ?_
  refine V_aload_n C 0 dX10_sheet_60 rfl rfl ?_
  refine fg10_63 (r := 16) C oM_0 rfl dX10_sheet_61 ?_
  refine V_iload_n C 1 dX10_sheet_64 rfl rfl ?_
  refine V_iload_n C 2 dX10_sheet_65 rfl rfl ?_
  have g5 : ¬ (ob l1 4) := fun g9 => by rw [if_pos g9] at h; cases h
  rw [if_neg g5] at h
  refine V_iastO C oM_16 g5 dX10_sheet_66 ?_
  refine V_aload_n C 0 dX10_sheet_67 rfl rfl ?_
  refine fg10_66 (r := 17) C oM_0 rfl dX10_sheet_68 ?_
  refine V_iload_n C 1 dX10_sheet_71 rfl rfl ?_
  refine V_iload_n C 3 dX10_sheet_72 rfl rfl ?_
  have g6 : ¬ (ob l1 4) := fun g9 => by rw [if_pos g9] at h; cases h
  rw [if_neg g6] at h
  refine V_iastO C oM_17 g6 dX10_sheet_73 ?_
  refine V_iconst C (w := 0) dX10_sheet_74 (by decide) ?_
  refine V_istore C (lv' := [(4, .int 0), (0, .ref (G.2.1 0)), (1, .int l1), (2, .int l2), (3, .int l3)]) dX10_sheet_75 (by decide) rfl ?_
  refine V_sub (lv' := [(0, .ref (G.2.1 0)), (1, .int l1), (2, .int l2), (3, .int l3), (4, .int 0)]) [1, 2, 3, 4, 0] rfl ?_
  exact X10_sheet_b77_ok C hd FU h
def X10_sheet_b45 (l1 : Int32) (l2 : Int32) (l3 : Int32) (σ : St) : Option (Int32 × St) := if l2 < 0 then (X10_sheet_b59 l1 l2 l3 0 l1 σ) else (X10_sheet_b59 l1 l2 l3 1 l1 σ)
set_option maxRecDepth 100000 in
set_option maxHeartbeats 4000000 in
theorem X10_sheet_b45_ok {G : Gx} {p : Program} {l : Launch} {e : Env} {d : Nat} {s : State} {m : MethodId} {args : Array Value} {below : List Frame} {meth : Method} {c : Code} {A : Nat → Prop} (C : OK shM G p s m args meth c RX10 cX10_sheet 5 (some FieldType.int) A) (hd : 3 ≤ d) {l1 : Int32} {l2 : Int32} {l3 : Int32} {σ : St} {x : (Int32 × St)} (h : X10_sheet_b45 l1 l2 l3 σ = some x) : Vw shM G p l e d s m args below meth c 5 A σ 45 [(0, .ref (G.2.1 0)), (1, .int l1), (2, .int l2), (3, .int l3)] [] (some (.int x.1)) x.2 := by
  unfold X10_sheet_b45 at h
  refine V_aload_n C 0 dX10_sheet_45 rfl rfl ?_
  refine fg10_60 (r := 15) C oM_0 rfl dX10_sheet_46 ?_
  refine V_iload_n C 1 dX10_sheet_49 rfl rfl ?_
  refine V_iload_n C 2 dX10_sheet_50 rfl rfl ?_
  by_cases c7 : l2 < 0
  · rw [if_pos c7] at h
    refine V_if_ltT C 58 dX10_sheet_51 (by decide) c7 ?_
    refine V_iconst C (w := 0) dX10_sheet_58 (by decide) ?_
    exact X10_sheet_b59_ok C hd h
  · rw [if_neg c7] at h
    refine V_if_ltF C 58 dX10_sheet_51 (by decide) c7 ?_
    refine V_iconst C (w := 1) dX10_sheet_54 (by decide) ?_
    refine V_goto C 59 dX10_sheet_55 (by decide) ?_
    exact X10_sheet_b59_ok C hd h
def X10_sheet_b34 (l1 : Int32) (l2 : Int32) (l3 : Int32) (σ : St) : Option (Int32 × St) := if l2 < 0 then (X10_sheet_b45 l1 l2 l3 σ) else (if 0 ≤ l3 then (X10_sheet_b45 l1 l2 l3 σ) else (some ((-14), σ)))
set_option maxRecDepth 100000 in
set_option maxHeartbeats 4000000 in
theorem X10_sheet_b34_ok {G : Gx} {p : Program} {l : Launch} {e : Env} {d : Nat} {s : State} {m : MethodId} {args : Array Value} {below : List Frame} {meth : Method} {c : Code} {A : Nat → Prop} (C : OK shM G p s m args meth c RX10 cX10_sheet 5 (some FieldType.int) A) (hd : 3 ≤ d) {l1 : Int32} {l2 : Int32} {l3 : Int32} {σ : St} {x : (Int32 × St)} (h : X10_sheet_b34 l1 l2 l3 σ = some x) : Vw shM G p l e d s m args below meth c 5 A σ 34 [(0, .ref (G.2.1 0)), (1, .int l1), (2, .int l2), (3, .int l3)] [] (some (.int x.1)) x.2 := by
  unfold X10_sheet_b34 at h
  refine V_iload_n C 2 dX10_sheet_34 rfl rfl ?_
  by_cases c8 : l2 < 0
  · rw [if_pos c8] at h
    refine V_if_ltT C 45 dX10_sheet_35 (by decide) c8 ?_
    exact X10_sheet_b45_ok C hd h
  · rw [if_neg c8] at h
    refine V_if_ltF C 45 dX10_sheet_35 (by decide) c8 ?_
    refine V_iload_n C 3 dX10_sheet_38 rfl rfl ?_
    by_cases c9 : 0 ≤ l3
    · rw [if_pos c9] at h
      refine V_if_geT C 45 dX10_sheet_39 (by decide) c9 ?_
      exact X10_sheet_b45_ok C hd h
    · rw [if_neg c9] at h
      refine V_if_geF C 45 dX10_sheet_39 (by decide) c9 ?_
      refine V_bipush C (w := (-14)) dX10_sheet_42 (by decide) ?_
      obtain rfl := Option.some.inj h
      exact V_iret C rfl rfl dX10_sheet_44
def X10_sheet (l1 : Int32) (l2 : Int32) (l3 : Int32) (σ : St) : Option (Int32 × St) := (X10_isSheet l1).bind (fun x1 => if x1 = 0 then (some ((-2), σ)) else ((X10_in (Int32.toInt64 l2) (-1) 2).bind (fun x15 => if x15 = 0 then (some ((-2), σ)) else (if l2 < 0 then (X10_sheet_b34 l1 l2 l3 σ) else (if l3 ≤ 40 then (X10_sheet_b34 l1 l2 l3 σ) else (some ((-2), σ)))))))
set_option maxRecDepth 100000 in
set_option maxHeartbeats 4000000 in
theorem X10_sheet_ok {l1 : Int32} {l2 : Int32} {l3 : Int32} {σ : St} {x : (Int32 × St)} (h : X10_sheet l1 l2 l3 σ = some x) : Ct shM (3) yX10_sheet cX10_sheet 5 (some FieldType.int) (fun G => [.ref (G.2.1 0), .int l1, .int l2, .int l3]) σ (fun G => some (.int x.1)) x.2 := by
  refine Ct.of mw_X10_sheet.1 (by decide +kernel) (fun G => Nat.le_of_ble_eq_true rfl) (fun G p l e d s m args below meth c A hd C => ?_)
  refine (?_ : Vw shM G p l e d s m args below meth c 5 A σ 0 [(0, .ref (G.2.1 0)), (1, .int l1), (2, .int l2), (3, .int l3)] [] (some (.int x.1)) x.2)
  unfold X10_sheet at h
  refine V_iload_n C 1 dX10_sheet_0 rfl rfl ?_
  obtain ⟨x1, h1, h⟩ := Option.bind_eq_some_iff.mp h
  refine V_callSi (As := [.int l1]) C (X10_isSheet_ok h1) mw_X10_isSheet.1 mw_X10_isSheet.2 q10_256 (by omega) rfl rfl rfl (Nat.le_of_ble_eq_true rfl) dX10_sheet_1 ?_
  by_cases c10 : x1 = 0
  · rw [if_pos c10] at h
    refine V_if_eqT C 31 dX10_sheet_4 (by decide) c10 ?_
    refine V_bipush C (w := (-2)) dX10_sheet_31 (by decide) ?_
    obtain rfl := Option.some.inj h
    exact V_iret C rfl rfl dX10_sheet_33
  · rw [if_neg c10] at h
    refine V_if_eqF C 31 dX10_sheet_4 (by decide) c10 ?_
    refine V_iload_n C 2 dX10_sheet_7 rfl rfl ?_
    refine V_i2l C dX10_sheet_8 ?_
    refine V_ldc2 C (w := (-1)) dX10_sheet_9 qk10_349 ?_
    refine V_ldc2 C (w := 2) dX10_sheet_12 qk10_259 ?_
    obtain ⟨x15, h15, h⟩ := Option.bind_eq_some_iff.mp h
    refine V_callSi (As := [.long (Int32.toInt64 l2), .long (-1), .long 2]) C (X10_in_ok h15) mw_X10_in.1 mw_X10_in.2 q10_82 (by omega) rfl rfl rfl (Nat.le_of_ble_eq_true rfl) dX10_sheet_15 ?_
    by_cases c11 : x15 = 0
    · rw [if_pos c11] at h
      refine V_if_eqT C 31 dX10_sheet_18 (by decide) c11 ?_
      refine V_bipush C (w := (-2)) dX10_sheet_31 (by decide) ?_
      obtain rfl := Option.some.inj h
      exact V_iret C rfl rfl dX10_sheet_33
    · rw [if_neg c11] at h
      refine V_if_eqF C 31 dX10_sheet_18 (by decide) c11 ?_
      refine V_iload_n C 2 dX10_sheet_21 rfl rfl ?_
      by_cases c12 : l2 < 0
      · rw [if_pos c12] at h
        refine V_if_ltT C 34 dX10_sheet_22 (by decide) c12 ?_
        exact X10_sheet_b34_ok C hd h
      · rw [if_neg c12] at h
        refine V_if_ltF C 34 dX10_sheet_22 (by decide) c12 ?_
        refine V_iload_n C 3 dX10_sheet_25 rfl rfl ?_
        refine V_bipush C (w := 40) dX10_sheet_26 (by decide) ?_
        by_cases c13 : l3 ≤ 40
        · rw [if_pos c13] at h
          refine V_icmp_leT C 34 dX10_sheet_28 (by decide) c13 ?_
          exact X10_sheet_b34_ok C hd h
        · rw [if_neg c13] at h
          refine V_icmp_leF C 34 dX10_sheet_28 (by decide) c13 ?_
          refine V_bipush C (w := (-2)) dX10_sheet_31 (by decide) ?_
          obtain rfl := Option.some.inj h
          exact V_iret C rfl rfl dX10_sheet_33
def X10_film_b49 : Nat → Int32 → Int32 → St → Option (Int32 × St)
  | 0, _, _, _ => none
  | F + 1, l1, l2, σ => if (σ.1 0 11) ≤ l2 then (some ((σ.1 0 11), σ)) else (if ob (l2 + 1) 6 then none else (if ob ((40 * l1) + l2) 160 then none else (X10_film_b49 F l1 (l2 + 1) (up σ 18 (((40 * l1) + l2)).toNatClampNeg (σ.1 8 ((l2 + 1)).toNatClampNeg)))))
set_option maxRecDepth 100000 in
set_option maxHeartbeats 4000000 in
theorem X10_film_b49_ok {G : Gx} {p : Program} {l : Launch} {e : Env} {d : Nat} {s : State} {m : MethodId} {args : Array Value} {below : List Frame} {meth : Method} {c : Code} {A : Nat → Prop} (C : OK shM G p s m args meth c RX10 cX10_film 3 (some FieldType.int) A) (hd : 64 ≤ d) : ∀ (F : Nat) {l1 : Int32} {l2 : Int32} {σ : St} {x : (Int32 × St)} (h : X10_film_b49 F l1 l2 σ = some x), Vw shM G p l e d s m args below meth c 3 A σ 49 [(0, .ref (G.2.1 0)), (1, .int l1), (2, .int l2)] [] (some (.int x.1)) x.2 := by
  intro F
  induction F with
  | zero =>
    intro l1 l2 σ x h
    rw [X10_film_b49] at h
    cases h
  | succ F ih =>
    intro l1 l2 σ x h
    rw [X10_film_b49] at h
    refine V_iload_n C 2 dX10_film_49 rfl rfl ?_
    refine V_aload_n C 0 dX10_film_50 rfl rfl ?_
    refine fg10_79 C oM_0 dX10_film_51 ?_
    by_cases c1 : (σ.1 0 11) ≤ l2
    · rw [if_pos c1] at h
      refine V_icmp_geT C 82 dX10_film_54 (by decide) c1 ?_
      refine V_aload_n C 0 dX10_film_82 rfl rfl ?_
      refine fg10_79 C oM_0 dX10_film_83 ?_
      obtain rfl := Option.some.inj h
      exact V_iret C rfl rfl dX10_film_86
    · rw [if_neg c1] at h
      refine V_icmp_geF C 82 dX10_film_54 (by decide) c1 ?_
      refine V_aload_n C 0 dX10_film_57 rfl rfl ?_
      refine fg10_69 (r := 18) C oM_0 rfl dX10_film_58 ?_
      refine V_bipush C (w := 40) dX10_film_61 (by decide) ?_
      refine V_iload_n C 1 dX10_film_63 rfl rfl ?_
      refine V_imul C dX10_film_64 ?_
      refine V_iload_n C 2 dX10_film_65 rfl rfl ?_
      refine V_iadd C dX10_film_66 ?_
      refine V_aload_n C 0 dX10_film_67 rfl rfl ?_
      refine fg10_35 (r := 8) C oM_0 rfl dX10_film_68 ?_
      refine V_iload_n C 2 dX10_film_71 rfl rfl ?_
      refine V_iconst C (w := 1) dX10_film_72 (by decide) ?_
      refine V_iadd C dX10_film_73 ?_
      have g2 : ¬ (ob (l2 + 1) 6) := fun g9 => by rw [if_pos g9] at h; cases h
      rw [if_neg g2] at h
      refine V_ialdO C oM_8 g2 dX10_film_74 ?_
      have g3 : ¬ (ob ((40 * l1) + l2) 160) := fun g9 => by rw [if_pos g9] at h; cases h
      rw [if_neg g3] at h
      refine V_iastO C oM_18 g3 dX10_film_75 ?_
      refine V_iinc C (w := (l2 + 1)) (lv' := [(2, .int (l2 + 1)), (0, .ref (G.2.1 0)), (1, .int l1)]) 2 dX10_film_76 rfl (congrArg (l2 + ·) (show Int32.ofInt 1 = 1 by decide)) (by decide) rfl ?_
      refine V_goto C 49 dX10_film_79 (by decide) ?_
      refine V_sub (lv' := [(0, .ref (G.2.1 0)), (1, .int l1), (2, .int (l2 + 1))]) [1, 2, 0] rfl ?_
      exact ih h
def X10_film_b16 : Nat → Int32 → Int32 → St → Option (Int32 × St)
  | 0, _, _, _ => none
  | F + 1, l1, l2, σ => if (σ.1 0 11) ≤ l2 then ((X10_sheet l1 0 (σ.1 0 11) σ).bind (fun x43 => X10_film_b49 FU l1 0 x43.2)) else ((X10_comes l2 l2 σ).bind (fun x27 => X10_film_b16 F l1 (l2 + 1) x27))
set_option maxRecDepth 100000 in
set_option maxHeartbeats 4000000 in
theorem X10_film_b16_ok {G : Gx} {p : Program} {l : Launch} {e : Env} {d : Nat} {s : State} {m : MethodId} {args : Array Value} {below : List Frame} {meth : Method} {c : Code} {A : Nat → Prop} (C : OK shM G p s m args meth c RX10 cX10_film 3 (some FieldType.int) A) (hd : 64 ≤ d) : ∀ (F : Nat) {l1 : Int32} {l2 : Int32} {σ : St} {x : (Int32 × St)} (h : X10_film_b16 F l1 l2 σ = some x), Vw shM G p l e d s m args below meth c 3 A σ 16 [(0, .ref (G.2.1 0)), (1, .int l1), (2, .int l2)] [] (some (.int x.1)) x.2 := by
  intro F
  induction F with
  | zero =>
    intro l1 l2 σ x h
    rw [X10_film_b16] at h
    cases h
  | succ F ih =>
    intro l1 l2 σ x h
    rw [X10_film_b16] at h
    refine V_iload_n C 2 dX10_film_16 rfl rfl ?_
    refine V_aload_n C 0 dX10_film_17 rfl rfl ?_
    refine fg10_79 C oM_0 dX10_film_18 ?_
    by_cases c4 : (σ.1 0 11) ≤ l2
    · rw [if_pos c4] at h
      refine V_icmp_geT C 36 dX10_film_21 (by decide) c4 ?_
      refine V_aload_n C 0 dX10_film_36 rfl rfl ?_
      refine V_iload_n C 1 dX10_film_37 rfl rfl ?_
      refine V_iconst C (w := 0) dX10_film_38 (by decide) ?_
      refine V_aload_n C 0 dX10_film_39 rfl rfl ?_
      refine fg10_79 C oM_0 dX10_film_40 ?_
      obtain ⟨x43, h43, h⟩ := Option.bind_eq_some_iff.mp h
      refine V_callVi (As := [.int l1, .int 0, .int (σ.1 0 11)]) C (X10_sheet_ok h43) mw_X10_sheet.1 mw_X10_sheet.2.1 mw_X10_sheet.2.2 q10_330 oM_0.1 oM_0.2.1 (by decide) rfl rfl (by omega) rfl rfl rfl (Nat.le_of_ble_eq_true rfl) dX10_film_43 ?_
      refine V_pop C dX10_film_46 rfl ?_
      refine V_iconst C (w := 0) dX10_film_47 (by decide) ?_
      refine V_istore_n C (lv' := [(2, .int 0), (0, .ref (G.2.1 0)), (1, .int l1)]) dX10_film_48 rfl (by decide) rfl ?_
      refine V_sub (lv' := [(0, .ref (G.2.1 0)), (1, .int l1), (2, .int 0)]) [1, 2, 0] rfl ?_
      exact X10_film_b49_ok C hd FU h
    · rw [if_neg c4] at h
      refine V_icmp_geF C 36 dX10_film_21 (by decide) c4 ?_
      refine V_aload_n C 0 dX10_film_24 rfl rfl ?_
      refine V_iload_n C 2 dX10_film_25 rfl rfl ?_
      refine V_iload_n C 2 dX10_film_26 rfl rfl ?_
      obtain ⟨x27, h27, h⟩ := Option.bind_eq_some_iff.mp h
      refine V_callVv (As := [.int l2, .int l2]) C (X10_comes_ok h27) mw_X10_comes.1 mw_X10_comes.2.1 mw_X10_comes.2.2 q10_253 oM_0.1 oM_0.2.1 (by decide) rfl rfl (by omega) rfl rfl rfl (Nat.le_of_ble_eq_true rfl) dX10_film_27 ?_
      refine V_iinc C (w := (l2 + 1)) (lv' := [(2, .int (l2 + 1)), (0, .ref (G.2.1 0)), (1, .int l1)]) 2 dX10_film_30 rfl (congrArg (l2 + ·) (show Int32.ofInt 1 = 1 by decide)) (by decide) rfl ?_
      refine V_goto C 16 dX10_film_33 (by decide) ?_
      refine V_sub (lv' := [(0, .ref (G.2.1 0)), (1, .int l1), (2, .int (l2 + 1))]) [1, 2, 0] rfl ?_
      exact ih h
def X10_film (l1 : Int32) (σ : St) : Option (Int32 × St) := (X10_isSheet l1).bind (fun x1 => if x1 = 0 then (some ((-2), σ)) else ((X10_begins σ).bind (fun x11 => X10_film_b16 FU l1 0 x11)))
set_option maxRecDepth 100000 in
set_option maxHeartbeats 4000000 in
theorem X10_film_ok {l1 : Int32} {σ : St} {x : (Int32 × St)} (h : X10_film l1 σ = some x) : Ct shM (64) yX10_film cX10_film 3 (some FieldType.int) (fun G => [.ref (G.2.1 0), .int l1]) σ (fun G => some (.int x.1)) x.2 := by
  refine Ct.of mw_X10_film.1 (by decide +kernel) (fun G => Nat.le_of_ble_eq_true rfl) (fun G p l e d s m args below meth c A hd C => ?_)
  refine (?_ : Vw shM G p l e d s m args below meth c 3 A σ 0 [(0, .ref (G.2.1 0)), (1, .int l1)] [] (some (.int x.1)) x.2)
  unfold X10_film at h
  refine V_iload_n C 1 dX10_film_0 rfl rfl ?_
  obtain ⟨x1, h1, h⟩ := Option.bind_eq_some_iff.mp h
  refine V_callSi (As := [.int l1]) C (X10_isSheet_ok h1) mw_X10_isSheet.1 mw_X10_isSheet.2 q10_256 (by omega) rfl rfl rfl (Nat.le_of_ble_eq_true rfl) dX10_film_1 ?_
  by_cases c5 : x1 = 0
  · rw [if_pos c5] at h
    refine V_if_neF C 10 dX10_film_4 (by decide) c5 ?_
    refine V_bipush C (w := (-2)) dX10_film_7 (by decide) ?_
    obtain rfl := Option.some.inj h
    exact V_iret C rfl rfl dX10_film_9
  · rw [if_neg c5] at h
    refine V_if_neT C 10 dX10_film_4 (by decide) c5 ?_
    refine V_aload_n C 0 dX10_film_10 rfl rfl ?_
    obtain ⟨x11, h11, h⟩ := Option.bind_eq_some_iff.mp h
    refine V_callVv (As := []) C (X10_begins_ok h11) mw_X10_begins.1 mw_X10_begins.2.1 mw_X10_begins.2.2 q10_113 oM_0.1 oM_0.2.1 (by decide) rfl rfl (by omega) rfl rfl rfl (Nat.le_of_ble_eq_true rfl) dX10_film_11 ?_
    refine V_iconst C (w := 0) dX10_film_14 (by decide) ?_
    refine V_istore_n C (lv' := [(2, .int 0), (0, .ref (G.2.1 0)), (1, .int l1)]) dX10_film_15 rfl (by decide) rfl ?_
    refine V_sub (lv' := [(0, .ref (G.2.1 0)), (1, .int l1), (2, .int 0)]) [1, 2, 0] rfl ?_
    exact X10_film_b16_ok C hd FU h
def X10_draws_b84 : Nat → Int32 → St → Option St
  | 0, _, _ => none
  | F + 1, l3, σ => if (σ.1 0 11) ≤ l3 then (some σ) else (if ob l3 5 then none else (if ob ((3 * l3) + 1) 15 then none else (X10_draws_b84 F (l3 + 1) (up σ 6 (((3 * l3) + 1)).toNatClampNeg (σ.1 12 (l3).toNatClampNeg)))))
set_option maxRecDepth 100000 in
set_option maxHeartbeats 4000000 in
theorem X10_draws_b84_ok {G : Gx} {p : Program} {l : Launch} {e : Env} {d : Nat} {s : State} {m : MethodId} {args : Array Value} {below : List Frame} {meth : Method} {c : Code} {A : Nat → Prop} (C : OK shM G p s m args meth c RX10 cX10_draws 4 none A) (hd : 64 ≤ d) : ∀ (F : Nat) {l3 : Int32} {σ : St} {x : St} (h : X10_draws_b84 F l3 σ = some x), Vw shM G p l e d s m args below meth c 4 A σ 84 [(0, .ref (G.2.1 0)), (3, .int l3)] [] (none) x := by
  intro F
  induction F with
  | zero =>
    intro l3 σ x h
    rw [X10_draws_b84] at h
    cases h
  | succ F ih =>
    intro l3 σ x h
    rw [X10_draws_b84] at h
    refine V_iload_n C 1 dX10_draws_84 rfl rfl ?_
    refine V_aload_n C 0 dX10_draws_85 rfl rfl ?_
    refine fg10_79 C oM_0 dX10_draws_86 ?_
    by_cases c1 : (σ.1 0 11) ≤ l3
    · rw [if_pos c1] at h
      refine V_icmp_geT C 114 dX10_draws_89 (by decide) c1 ?_
      obtain rfl := Option.some.inj h
      exact V_vret C rfl dX10_draws_114
    · rw [if_neg c1] at h
      refine V_icmp_geF C 114 dX10_draws_89 (by decide) c1 ?_
      refine V_aload_n C 0 dX10_draws_92 rfl rfl ?_
      refine fg10_29 (r := 6) C oM_0 rfl dX10_draws_93 ?_
      refine V_iconst C (w := 3) dX10_draws_96 (by decide) ?_
      refine V_iload_n C 1 dX10_draws_97 rfl rfl ?_
      refine V_imul C dX10_draws_98 ?_
      refine V_iconst C (w := 1) dX10_draws_99 (by decide) ?_
      refine V_iadd C dX10_draws_100 ?_
      refine V_aload_n C 0 dX10_draws_101 rfl rfl ?_
      refine fg10_48 (r := 12) C oM_0 rfl dX10_draws_102 ?_
      refine V_iload_n C 1 dX10_draws_105 rfl rfl ?_
      have g2 : ¬ (ob l3 5) := fun g9 => by rw [if_pos g9] at h; cases h
      rw [if_neg g2] at h
      refine V_ialdO C oM_12 g2 dX10_draws_106 ?_
      have g3 : ¬ (ob ((3 * l3) + 1) 15) := fun g9 => by rw [if_pos g9] at h; cases h
      rw [if_neg g3] at h
      refine V_iastO C oM_6 g3 dX10_draws_107 ?_
      refine V_iinc C (w := (l3 + 1)) (lv' := [(3, .int (l3 + 1)), (0, .ref (G.2.1 0))]) 1 dX10_draws_108 rfl (congrArg (l3 + ·) (show Int32.ofInt 1 = 1 by decide)) (by decide) rfl ?_
      refine V_goto C 84 dX10_draws_111 (by decide) ?_
      refine V_sub (lv' := [(0, .ref (G.2.1 0)), (3, .int (l3 + 1))]) [1, 0] rfl ?_
      exact ih h
def X10_draws_b62 : Nat → Int32 → St → Option St
  | 0, _, _ => none
  | F + 1, l3, σ => if (σ.1 0 11) ≤ l3 then (X10_draws_b84 FU 0 σ) else ((X10_comes l3 l3 σ).bind (fun x73 => X10_draws_b62 F (l3 + 1) x73))
set_option maxRecDepth 100000 in
set_option maxHeartbeats 4000000 in
theorem X10_draws_b62_ok {G : Gx} {p : Program} {l : Launch} {e : Env} {d : Nat} {s : State} {m : MethodId} {args : Array Value} {below : List Frame} {meth : Method} {c : Code} {A : Nat → Prop} (C : OK shM G p s m args meth c RX10 cX10_draws 4 none A) (hd : 64 ≤ d) : ∀ (F : Nat) {l3 : Int32} {σ : St} {x : St} (h : X10_draws_b62 F l3 σ = some x), Vw shM G p l e d s m args below meth c 4 A σ 62 [(0, .ref (G.2.1 0)), (3, .int l3)] [] (none) x := by
  intro F
  induction F with
  | zero =>
    intro l3 σ x h
    rw [X10_draws_b62] at h
    cases h
  | succ F ih =>
    intro l3 σ x h
    rw [X10_draws_b62] at h
    refine V_iload_n C 1 dX10_draws_62 rfl rfl ?_
    refine V_aload_n C 0 dX10_draws_63 rfl rfl ?_
    refine fg10_79 C oM_0 dX10_draws_64 ?_
    by_cases c4 : (σ.1 0 11) ≤ l3
    · rw [if_pos c4] at h
      refine V_icmp_geT C 82 dX10_draws_67 (by decide) c4 ?_
      refine V_iconst C (w := 0) dX10_draws_82 (by decide) ?_
      refine V_istore_n C (lv' := [(3, .int 0), (0, .ref (G.2.1 0))]) dX10_draws_83 rfl (by decide) rfl ?_
      refine V_sub (lv' := [(0, .ref (G.2.1 0)), (3, .int 0)]) [1, 0] rfl ?_
      exact X10_draws_b84_ok C hd FU h
    · rw [if_neg c4] at h
      refine V_icmp_geF C 82 dX10_draws_67 (by decide) c4 ?_
      refine V_aload_n C 0 dX10_draws_70 rfl rfl ?_
      refine V_iload_n C 1 dX10_draws_71 rfl rfl ?_
      refine V_iload_n C 1 dX10_draws_72 rfl rfl ?_
      obtain ⟨x73, h73, h⟩ := Option.bind_eq_some_iff.mp h
      refine V_callVv (As := [.int l3, .int l3]) C (X10_comes_ok h73) mw_X10_comes.1 mw_X10_comes.2.1 mw_X10_comes.2.2 q10_253 oM_0.1 oM_0.2.1 (by decide) rfl rfl (by omega) rfl rfl rfl (Nat.le_of_ble_eq_true rfl) dX10_draws_73 ?_
      refine V_iinc C (w := (l3 + 1)) (lv' := [(3, .int (l3 + 1)), (0, .ref (G.2.1 0))]) 1 dX10_draws_76 rfl (congrArg (l3 + ·) (show Int32.ofInt 1 = 1 by decide)) (by decide) rfl ?_
      refine V_goto C 62 dX10_draws_79 (by decide) ?_
      refine V_sub (lv' := [(0, .ref (G.2.1 0)), (3, .int (l3 + 1))]) [1, 0] rfl ?_
      exact ih h
def X10_draws_b4 : Nat → Int32 → Int32 → St → Option St
  | 0, _, _, _ => none
  | F + 1, l2, l3, σ => if (σ.1 0 11) ≤ l3 then ((X10_begins σ).bind (fun x57 => X10_draws_b62 FU 0 x57)) else ((X10_topicOf l3 σ).bind (fun x19 => if ob l3 5 then none else (if ob ((3 * l3) + 1) 15 then none else (X10_draws_b4 F ((l2 * 1103515245) + 12345) (l3 + 1) (up (up σ 12 (l3).toNatClampNeg x19) 6 (((3 * l3) + 1)).toNatClampNeg (((((l2 * 1103515245) + 12345).toUInt32 >>> (Int32.toUInt32 9 &&& Int32.toUInt32 31)).toInt32) - ((((l2 * 1103515245) + 12345).toUInt32 >>> (Int32.toUInt32 9 &&& Int32.toUInt32 31)).toInt32) / 8 * 8))))))
set_option maxRecDepth 100000 in
set_option maxHeartbeats 4000000 in
theorem X10_draws_b4_ok {G : Gx} {p : Program} {l : Launch} {e : Env} {d : Nat} {s : State} {m : MethodId} {args : Array Value} {below : List Frame} {meth : Method} {c : Code} {A : Nat → Prop} (C : OK shM G p s m args meth c RX10 cX10_draws 4 none A) (hd : 64 ≤ d) : ∀ (F : Nat) {l2 : Int32} {l3 : Int32} {σ : St} {x : St} (h : X10_draws_b4 F l2 l3 σ = some x), Vw shM G p l e d s m args below meth c 4 A σ 4 [(0, .ref (G.2.1 0)), (2, .int l2), (3, .int l3)] [] (none) x := by
  intro F
  induction F with
  | zero =>
    intro l2 l3 σ x h
    rw [X10_draws_b4] at h
    cases h
  | succ F ih =>
    intro l2 l3 σ x h
    rw [X10_draws_b4] at h
    refine V_iload_n C 2 dX10_draws_4 rfl rfl ?_
    refine V_aload_n C 0 dX10_draws_5 rfl rfl ?_
    refine fg10_79 C oM_0 dX10_draws_6 ?_
    by_cases c5 : (σ.1 0 11) ≤ l3
    · rw [if_pos c5] at h
      refine V_icmp_geT C 56 dX10_draws_9 (by decide) c5 ?_
      refine V_aload_n C 0 dX10_draws_56 rfl rfl ?_
      obtain ⟨x57, h57, h⟩ := Option.bind_eq_some_iff.mp h
      refine V_callVv (As := []) C (X10_begins_ok h57) mw_X10_begins.1 mw_X10_begins.2.1 mw_X10_begins.2.2 q10_113 oM_0.1 oM_0.2.1 (by decide) rfl rfl (by omega) rfl rfl rfl (Nat.le_of_ble_eq_true rfl) dX10_draws_57 ?_
      refine V_iconst C (w := 0) dX10_draws_60 (by decide) ?_
      refine V_istore_n C (lv' := [(3, .int 0), (0, .ref (G.2.1 0)), (2, .int l2)]) dX10_draws_61 rfl (by decide) rfl ?_
      refine V_sub (lv' := [(0, .ref (G.2.1 0)), (3, .int 0)]) [1, 0] rfl ?_
      exact X10_draws_b62_ok C hd FU h
    · rw [if_neg c5] at h
      refine V_icmp_geF C 56 dX10_draws_9 (by decide) c5 ?_
      refine V_aload_n C 0 dX10_draws_12 rfl rfl ?_
      refine fg10_48 (r := 12) C oM_0 rfl dX10_draws_13 ?_
      refine V_iload_n C 2 dX10_draws_16 rfl rfl ?_
      refine V_aload_n C 0 dX10_draws_17 rfl rfl ?_
      refine V_iload_n C 2 dX10_draws_18 rfl rfl ?_
      obtain ⟨x19, h19, h⟩ := Option.bind_eq_some_iff.mp h
      refine V_callVi (As := [.int l3]) C (X10_topicOf_ok h19) mw_X10_topicOf.1 mw_X10_topicOf.2.1 mw_X10_topicOf.2.2 q10_246 oM_0.1 oM_0.2.1 (by decide) rfl rfl (by omega) rfl rfl rfl (Nat.le_of_ble_eq_true rfl) dX10_draws_19 ?_
      have g6 : ¬ (ob l3 5) := fun g9 => by rw [if_pos g9] at h; cases h
      rw [if_neg g6] at h
      refine V_iastO C oM_12 g6 dX10_draws_22 ?_
      refine V_iload_n C 1 dX10_draws_23 rfl rfl ?_
      refine V_ldcw C (w := 1103515245) dX10_draws_24 qk10_333 ?_
      refine V_imul C dX10_draws_27 ?_
      refine V_sipush C (w := 12345) dX10_draws_28 (by decide) ?_
      refine V_iadd C dX10_draws_31 ?_
      refine V_istore_n C (lv' := [(2, .int ((l2 * 1103515245) + 12345)), (0, .ref (G.2.1 0)), (3, .int l3)]) dX10_draws_32 rfl (by decide) rfl ?_
      refine V_aload_n C 1 dX10_draws_33 rfl rfl ?_
      refine fg10_29 (r := 6) C oM_0 rfl dX10_draws_34 ?_
      refine V_iconst C (w := 3) dX10_draws_37 (by decide) ?_
      refine V_iload_n C 2 dX10_draws_38 rfl rfl ?_
      refine V_imul C dX10_draws_39 ?_
      refine V_iconst C (w := 1) dX10_draws_40 (by decide) ?_
      refine V_iadd C dX10_draws_41 ?_
      refine V_iload_n C 0 dX10_draws_42 rfl rfl ?_
      refine V_bipush C (w := 9) dX10_draws_43 (by decide) ?_
      refine V_iushr C dX10_draws_45 rfl ?_
      refine V_bipush C (w := 8) dX10_draws_46 (by decide) ?_
      refine V_irem C dX10_draws_48 (by decide) ?_
      have g7 : ¬ (ob ((3 * l3) + 1) 15) := fun g9 => by rw [if_pos g9] at h; cases h
      rw [if_neg g7] at h
      refine V_iastO C oM_6 g7 dX10_draws_49 ?_
      refine V_iinc C (w := (l3 + 1)) (lv' := [(3, .int (l3 + 1)), (2, .int ((l2 * 1103515245) + 12345)), (0, .ref (G.2.1 0))]) 2 dX10_draws_50 rfl (congrArg (l3 + ·) (show Int32.ofInt 1 = 1 by decide)) (by decide) rfl ?_
      refine V_goto C 4 dX10_draws_53 (by decide) ?_
      refine V_sub (lv' := [(0, .ref (G.2.1 0)), (2, .int ((l2 * 1103515245) + 12345)), (3, .int (l3 + 1))]) [2, 1, 0] rfl ?_
      exact ih h
def X10_draws (l1 : Int32) (σ : St) : Option St := X10_draws_b4 FU l1 0 σ
set_option maxRecDepth 100000 in
set_option maxHeartbeats 4000000 in
theorem X10_draws_ok {l1 : Int32} {σ : St} {x : St} (h : X10_draws l1 σ = some x) : Ct shM (64) yX10_draws cX10_draws 4 none (fun G => [.ref (G.2.1 0), .int l1]) σ (fun G => none) x := by
  refine Ct.of mw_X10_draws.1 (by decide +kernel) (fun G => Nat.le_of_ble_eq_true rfl) (fun G p l e d s m args below meth c A hd C => ?_)
  refine (?_ : Vw shM G p l e d s m args below meth c 4 A σ 0 [(0, .ref (G.2.1 0)), (1, .int l1)] [] (none) x)
  unfold X10_draws at h
  refine V_iload_n C 1 dX10_draws_0 rfl rfl ?_
  refine V_istore_n C (lv' := [(2, .int l1), (0, .ref (G.2.1 0)), (1, .int l1)]) dX10_draws_1 rfl (by decide) rfl ?_
  refine V_iconst C (w := 0) dX10_draws_2 (by decide) ?_
  refine V_istore_n C (lv' := [(3, .int 0), (2, .int l1), (0, .ref (G.2.1 0)), (1, .int l1)]) dX10_draws_3 rfl (by decide) rfl ?_
  refine V_sub (lv' := [(0, .ref (G.2.1 0)), (2, .int l1), (3, .int 0)]) [2, 1, 0] rfl ?_
  exact X10_draws_b4_ok C hd FU h
