def X9_mayBeAskedOfTold_b9 (l1 : Int32) (σ : St) : Option Int32 := if l1 < 10 then (some 0) else (if 40 ≤ l1 then (some 0) else ((X5_has 1 (l1 - l1 / 10 * 10) σ).bind (fun x29 => if x29 = 0 then (some 0) else (some 1))))
set_option maxRecDepth 100000 in
set_option maxHeartbeats 4000000 in
theorem X9_mayBeAskedOfTold_b9_ok {G : Gx} {p : Program} {l : Launch} {e : Env} {d : Nat} {s : State} {m : MethodId} {args : Array Value} {below : List Frame} {meth : Method} {c : Code} {A : Nat → Prop} (C : OK shX G p s m args meth c RX9 cX9_mayBeAskedOfTold 2 (some FieldType.boolean) A) (hd : 2 ≤ d) {l1 : Int32} {σ : St} {x : Int32} (h : X9_mayBeAskedOfTold_b9 l1 σ = some x) : Vw shX G p l e d s m args below meth c 2 A σ 9 [(0, .ref (G.2.1 0)), (1, .int l1)] [] (some (.int x)) σ := by
  unfold X9_mayBeAskedOfTold_b9 at h
  refine V_iload_n C 1 dX9_mayBeAskedOfTold_9 rfl rfl ?_
  refine V_bipush C (w := 10) dX9_mayBeAskedOfTold_10 (by decide) ?_
  by_cases c1 : l1 < 10
  · rw [if_pos c1] at h
    refine V_icmp_ltT C 39 dX9_mayBeAskedOfTold_12 (by decide) c1 ?_
    refine V_iconst C (w := 0) dX9_mayBeAskedOfTold_39 (by decide) ?_
    obtain rfl := Option.some.inj h
    exact V_iret C rfl (nz (Or.inl rfl)) dX9_mayBeAskedOfTold_40
  · rw [if_neg c1] at h
    refine V_icmp_ltF C 39 dX9_mayBeAskedOfTold_12 (by decide) c1 ?_
    refine V_iload_n C 1 dX9_mayBeAskedOfTold_15 rfl rfl ?_
    refine V_bipush C (w := 40) dX9_mayBeAskedOfTold_16 (by decide) ?_
    by_cases c2 : 40 ≤ l1
    · rw [if_pos c2] at h
      refine V_icmp_geT C 39 dX9_mayBeAskedOfTold_18 (by decide) c2 ?_
      refine V_iconst C (w := 0) dX9_mayBeAskedOfTold_39 (by decide) ?_
      obtain rfl := Option.some.inj h
      exact V_iret C rfl (nz (Or.inl rfl)) dX9_mayBeAskedOfTold_40
    · rw [if_neg c2] at h
      refine V_icmp_geF C 39 dX9_mayBeAskedOfTold_18 (by decide) c2 ?_
      refine V_aload_n C 0 dX9_mayBeAskedOfTold_21 rfl rfl ?_
      refine fg9_10 (r := 1) C oX_0 rfl dX9_mayBeAskedOfTold_22 ?_
      refine V_iload_n C 1 dX9_mayBeAskedOfTold_25 rfl rfl ?_
      refine V_bipush C (w := 10) dX9_mayBeAskedOfTold_26 (by decide) ?_
      refine V_irem C dX9_mayBeAskedOfTold_28 (by decide) ?_
      obtain ⟨x29, h29, h⟩ := Option.bind_eq_some_iff.mp h
      refine V_callVi (As := [.int (l1 - l1 / 10 * 10)]) C (X5_has_ok h29) mw_X5_has.1 mw_X5_has.2.1 mw_X5_has.2.2 q9_101 oX_1.1 oX_1.2.1 (by decide) rfl rfl (by omega) rfl rfl rfl (Nat.le_of_ble_eq_true rfl) dX9_mayBeAskedOfTold_29 ?_
      by_cases c3 : x29 = 0
      · rw [if_pos c3] at h
        refine V_if_eqT C 39 dX9_mayBeAskedOfTold_32 (by decide) c3 ?_
        refine V_iconst C (w := 0) dX9_mayBeAskedOfTold_39 (by decide) ?_
        obtain rfl := Option.some.inj h
        exact V_iret C rfl (nz (Or.inl rfl)) dX9_mayBeAskedOfTold_40
      · rw [if_neg c3] at h
        refine V_if_eqF C 39 dX9_mayBeAskedOfTold_32 (by decide) c3 ?_
        refine V_iconst C (w := 1) dX9_mayBeAskedOfTold_35 (by decide) ?_
        refine V_goto C 40 dX9_mayBeAskedOfTold_36 (by decide) ?_
        obtain rfl := Option.some.inj h
        exact V_iret C rfl (nz (Or.inr rfl)) dX9_mayBeAskedOfTold_40
def X9_mayBeAskedOfTold (l1 : Int32) (σ : St) : Option Int32 := if l1 < 0 then (X9_mayBeAskedOfTold_b9 l1 σ) else (if l1 ≤ 4 then (some 1) else (X9_mayBeAskedOfTold_b9 l1 σ))
set_option maxRecDepth 100000 in
set_option maxHeartbeats 4000000 in
theorem X9_mayBeAskedOfTold_ok {l1 : Int32} {σ : St} {x : Int32} (h : X9_mayBeAskedOfTold l1 σ = some x) : Ct shX (2) yX9_mayBeAskedOfTold cX9_mayBeAskedOfTold 2 (some FieldType.boolean) (fun G => [.ref (G.2.1 0), .int l1]) σ (fun G => some (.int x)) σ := by
  refine Ct.of mw_X9_mayBeAskedOfTold.1 (by decide +kernel) (fun G => Nat.le_of_ble_eq_true rfl) (fun G p l e d s m args below meth c A hd C => ?_)
  refine (?_ : Vw shX G p l e d s m args below meth c 2 A σ 0 [(0, .ref (G.2.1 0)), (1, .int l1)] [] (some (.int x)) σ)
  unfold X9_mayBeAskedOfTold at h
  refine V_iload_n C 1 dX9_mayBeAskedOfTold_0 rfl rfl ?_
  by_cases c4 : l1 < 0
  · rw [if_pos c4] at h
    refine V_if_ltT C 9 dX9_mayBeAskedOfTold_1 (by decide) c4 ?_
    exact X9_mayBeAskedOfTold_b9_ok C hd h
  · rw [if_neg c4] at h
    refine V_if_ltF C 9 dX9_mayBeAskedOfTold_1 (by decide) c4 ?_
    refine V_iload_n C 1 dX9_mayBeAskedOfTold_4 rfl rfl ?_
    refine V_iconst C (w := 4) dX9_mayBeAskedOfTold_5 (by decide) ?_
    by_cases c5 : l1 ≤ 4
    · rw [if_pos c5] at h
      refine V_icmp_leT C 35 dX9_mayBeAskedOfTold_6 (by decide) c5 ?_
      refine V_iconst C (w := 1) dX9_mayBeAskedOfTold_35 (by decide) ?_
      refine V_goto C 40 dX9_mayBeAskedOfTold_36 (by decide) ?_
      obtain rfl := Option.some.inj h
      exact V_iret C rfl (nz (Or.inr rfl)) dX9_mayBeAskedOfTold_40
    · rw [if_neg c5] at h
      refine V_icmp_leF C 35 dX9_mayBeAskedOfTold_6 (by decide) c5 ?_
      exact X9_mayBeAskedOfTold_b9_ok C hd h
def X9_tells (l1 : Int32) (l2 : Int32) (σ : St) : Option (Int32 × St) := (X9_sheetOf l1 σ).bind (fun x2 => Option.elim x2 (some ((-2), σ)) (fun t2 => (X9_mayBeAskedOfTold l2 σ).bind (fun x12 => if x12 = 0 then (some ((-2), σ)) else (if isO shX t2 6 3 then ((X6_isMissing t2 σ).bind (fun x22 => if x22 = 0 then (if (σ.1 t2 2) = (σ.1 1 5) then (if l2 < 10 then (if l2 = 3 then ((X3_firstOtherwise t2 σ).bind (fun x105 => some (x105.1, x105.2))) else (if l2 = 4 then ((X3_fittingTexts t2 (σ.1 13 5) σ).bind (fun x121 => some (x121.1, x121.2))) else ((X3_seekWays t2 σ).bind (fun x130 => if l2 = 0 then (some ((x130.1 35 4), x130)) else (if l2 = 1 then (some ((x130.1 35 5), x130)) else (some ((x130.1 35 6), x130))))))) else ((X3_fitting t2 (l2 / 10) (l2 - l2 / 10 * 10) σ).bind (fun x67 => some (x67.1, x67.2)))) else (some ((-2), σ))) else (some ((-11), σ)))) else none))))
set_option maxRecDepth 100000 in
set_option maxHeartbeats 4000000 in
theorem X9_tells_ok {l1 : Int32} {l2 : Int32} {σ : St} {x : (Int32 × St)} (h : X9_tells l1 l2 σ = some x) : Ct shX (16) yX9_tells cX9_tells 4 (some FieldType.int) (fun G => [.ref (G.2.1 0), .int l1, .int l2]) σ (fun G => some (.int x.1)) x.2 := by
  refine Ct.of mw_X9_tells.1 (by decide +kernel) (fun G => Nat.le_of_ble_eq_true rfl) (fun G p l e d s m args below meth c A hd C => ?_)
  refine (?_ : Vw shX G p l e d s m args below meth c 4 A σ 0 [(0, .ref (G.2.1 0)), (1, .int l1), (2, .int l2)] [] (some (.int x.1)) x.2)
  unfold X9_tells at h
  refine V_aload_n C 0 dX9_tells_0 rfl rfl ?_
  refine V_iload_n C 1 dX9_tells_1 rfl rfl ?_
  obtain ⟨x2, h2, h⟩ := Option.bind_eq_some_iff.mp h
  rcases x2 with _ | t2
  · dsimp only [Option.elim] at h
    refine V_callVn (As := [.int l1]) C (X9_sheetOf_ok h2) mw_X9_sheetOf.1 mw_X9_sheetOf.2.1 mw_X9_sheetOf.2.2 q9_141 oX_0.1 oX_0.2.1 (by decide) rfl rfl (by omega) rfl rfl rfl (Nat.le_of_ble_eq_true rfl) dX9_tells_2 ?_
    refine V_astore_nN C (lv' := [(3, .null), (0, .ref (G.2.1 0)), (1, .int l1), (2, .int l2)]) dX9_tells_5 rfl (by decide) rfl ?_
    refine V_aload_nN C 0 dX9_tells_6 rfl rfl ?_
    refine V_ifnullT C 18 dX9_tells_7 (by decide) ?_
    refine V_bipush C (w := (-2)) dX9_tells_18 (by decide) ?_
    obtain rfl := Option.some.inj h
    exact V_iret C rfl rfl dX9_tells_20
  · dsimp only [Option.elim] at h
    refine V_callVr (As := [.int l1]) C (X9_sheetOf_ok h2) mw_X9_sheetOf.1 mw_X9_sheetOf.2.1 mw_X9_sheetOf.2.2 q9_141 oX_0.1 oX_0.2.1 (by decide) rfl rfl (by omega) rfl rfl rfl (Nat.le_of_ble_eq_true rfl) dX9_tells_2 ?_
    refine V_astore_n C (lv' := [(3, .ref (G.2.1 t2)), (0, .ref (G.2.1 0)), (1, .int l1), (2, .int l2)]) dX9_tells_5 rfl (by decide) rfl ?_
    refine V_aload_n C 0 dX9_tells_6 rfl rfl ?_
    refine V_ifnullF C dX9_tells_7 ?_
    refine V_aload_n C 1 dX9_tells_10 rfl rfl ?_
    refine V_iload_n C 3 dX9_tells_11 rfl rfl ?_
    obtain ⟨x12, h12, h⟩ := Option.bind_eq_some_iff.mp h
    refine V_callVi (As := [.int l2]) C (X9_mayBeAskedOfTold_ok h12) mw_X9_mayBeAskedOfTold.1 mw_X9_mayBeAskedOfTold.2.1 mw_X9_mayBeAskedOfTold.2.2 q9_205 oX_0.1 oX_0.2.1 (by decide) rfl rfl (by omega) rfl rfl rfl (Nat.le_of_ble_eq_true rfl) dX9_tells_12 ?_
    by_cases c1 : x12 = 0
    · rw [if_pos c1] at h
      refine V_if_neF C 21 dX9_tells_15 (by decide) c1 ?_
      refine V_bipush C (w := (-2)) dX9_tells_18 (by decide) ?_
      obtain rfl := Option.some.inj h
      exact V_iret C rfl rfl dX9_tells_20
    · rw [if_neg c1] at h
      refine V_if_neT C 21 dX9_tells_15 (by decide) c1 ?_
      refine V_aload_n C 0 dX9_tells_21 rfl rfl ?_
      have g2 : isO shX t2 6 3 := Decidable.byContradiction (fun g9 => by rw [if_neg g9] at h; cases h)
      rw [if_pos g2] at h
      obtain ⟨x22, h22, h⟩ := Option.bind_eq_some_iff.mp h
      refine V_callVi (As := []) C (X6_isMissing_ok h22) mw_X6_isMissing.1 mw_X6_isMissing.2.1 mw_X6_isMissing.2.2 q9_145 g2.1 g2.2.1 (by decide) rfl rfl (by omega) rfl rfl rfl (Nat.le_of_ble_eq_true rfl) dX9_tells_22 ?_
      by_cases c3 : x22 = 0
      · rw [if_pos c3] at h
        refine V_if_eqT C 31 dX9_tells_25 (by decide) c3 ?_
        refine V_aload_n C 0 dX9_tells_31 rfl rfl ?_
        refine fg9_161 C g2 dX9_tells_32 ?_
        refine V_aload_n C 1 dX9_tells_35 rfl rfl ?_
        refine fg9_10 (r := 1) C oX_0 rfl dX9_tells_36 ?_
        refine fg9_196 C oX_1 dX9_tells_39 ?_
        by_cases c4 : (σ.1 t2 2) = (σ.1 1 5)
        · rw [if_pos c4] at h
          refine V_icmp_eqT C 48 dX9_tells_42 (by decide) c4 ?_
          refine V_iload_n C 3 dX9_tells_48 rfl rfl ?_
          refine V_bipush C (w := 10) dX9_tells_49 (by decide) ?_
          by_cases c5 : l2 < 10
          · rw [if_pos c5] at h
            refine V_icmp_ltT C 71 dX9_tells_51 (by decide) c5 ?_
            refine V_iload_n C 3 dX9_tells_71 rfl rfl ?_
            by_cases c6 : l2 = 3
            · rw [if_pos c6] at h
              refine V_lookup (off := 28) C 100 dX9_tells_72 (by decide) (by rw [c6]; decide) (by decide) ?_
              refine V_aload_n C 1 dX9_tells_100 rfl rfl ?_
              refine fg9_73 (r := 35) C oX_0 rfl dX9_tells_101 ?_
              refine V_aload_n C 0 dX9_tells_104 rfl rfl ?_
              obtain ⟨x105, h105, h⟩ := Option.bind_eq_some_iff.mp h
              refine V_callVi (As := [.ref (G.2.1 t2)]) C (X3_firstOtherwise_ok h105) mw_X3_firstOtherwise.1 mw_X3_firstOtherwise.2.1 mw_X3_firstOtherwise.2.2 q9_212 oX_35.1 oX_35.2.1 (by decide) rfl rfl (by omega) rfl rfl rfl (Nat.le_of_ble_eq_true rfl) dX9_tells_105 ?_
              obtain rfl := Option.some.inj h
              exact V_iret C rfl rfl dX9_tells_108
            · rw [if_neg c6] at h
              by_cases c7 : l2 = 4
              · rw [if_pos c7] at h
                refine V_lookup (off := 37) C 109 dX9_tells_72 (by decide) (by rw [c7]; decide) (by decide) ?_
                refine V_aload_n C 1 dX9_tells_109 rfl rfl ?_
                refine fg9_73 (r := 35) C oX_0 rfl dX9_tells_110 ?_
                refine V_aload_n C 0 dX9_tells_113 rfl rfl ?_
                refine V_aload_n C 1 dX9_tells_114 rfl rfl ?_
                refine fg9_33 (r := 13) C oX_0 rfl dX9_tells_115 ?_
                refine fg9_134 C oX_13 dX9_tells_118 ?_
                obtain ⟨x121, h121, h⟩ := Option.bind_eq_some_iff.mp h
                refine V_callVi (As := [.ref (G.2.1 t2), .int (σ.1 13 5)]) C (X3_fittingTexts_ok h121) mw_X3_fittingTexts.1 mw_X3_fittingTexts.2.1 mw_X3_fittingTexts.2.2 q9_216 oX_35.1 oX_35.2.1 (by decide) rfl rfl (by omega) rfl rfl rfl (Nat.le_of_ble_eq_true rfl) dX9_tells_121 ?_
                obtain rfl := Option.some.inj h
                exact V_iret C rfl rfl dX9_tells_124
              · rw [if_neg c7] at h
                have nc6 := ti_ne c6 (show (3 : Int32).toInt = 3 by decide)
                have nc7 := ti_ne c7 (show (4 : Int32).toInt = 4 by decide)
                refine V_lookup (off := 53) C 125 dX9_tells_72 (by decide) (by simp [Op.lookupswitch.offset, Ne.symm nc6, nc6, Ne.symm nc7, nc7]) (by decide) ?_
                refine V_aload_n C 1 dX9_tells_125 rfl rfl ?_
                refine fg9_73 (r := 35) C oX_0 rfl dX9_tells_126 ?_
                refine V_aload_n C 0 dX9_tells_129 rfl rfl ?_
                obtain ⟨x130, h130, h⟩ := Option.bind_eq_some_iff.mp h
                refine V_callVv (As := [.ref (G.2.1 t2)]) C (X3_seekWays_ok h130) mw_X3_seekWays.1 mw_X3_seekWays.2.1 mw_X3_seekWays.2.2 q9_220 oX_35.1 oX_35.2.1 (by decide) rfl rfl (by omega) rfl rfl rfl (Nat.le_of_ble_eq_true rfl) dX9_tells_130 ?_
                refine V_iload_n C 3 dX9_tells_133 rfl rfl ?_
                by_cases c8 : l2 = 0
                · rw [if_pos c8] at h
                  refine V_if_neF C 147 dX9_tells_134 (by decide) c8 ?_
                  refine V_aload_n C 1 dX9_tells_137 rfl rfl ?_
                  refine fg9_73 (r := 35) C oX_0 rfl dX9_tells_138 ?_
                  refine fg9_224 C oX_35 dX9_tells_141 ?_
                  refine V_goto C 169 dX9_tells_144 (by decide) ?_
                  obtain rfl := Option.some.inj h
                  exact V_iret C rfl rfl dX9_tells_169
                · rw [if_neg c8] at h
                  refine V_if_neT C 147 dX9_tells_134 (by decide) c8 ?_
                  refine V_iload_n C 3 dX9_tells_147 rfl rfl ?_
                  refine V_iconst C (w := 1) dX9_tells_148 (by decide) ?_
                  by_cases c9 : l2 = 1
                  · rw [if_pos c9] at h
                    refine V_icmp_neF C 162 dX9_tells_149 (by decide) c9 ?_
                    refine V_aload_n C 1 dX9_tells_152 rfl rfl ?_
                    refine fg9_73 (r := 35) C oX_0 rfl dX9_tells_153 ?_
                    refine fg9_227 C oX_35 dX9_tells_156 ?_
                    refine V_goto C 169 dX9_tells_159 (by decide) ?_
                    obtain rfl := Option.some.inj h
                    exact V_iret C rfl rfl dX9_tells_169
                  · rw [if_neg c9] at h
                    refine V_icmp_neT C 162 dX9_tells_149 (by decide) c9 ?_
                    refine V_aload_n C 1 dX9_tells_162 rfl rfl ?_
                    refine fg9_73 (r := 35) C oX_0 rfl dX9_tells_163 ?_
                    refine fg9_230 C oX_35 dX9_tells_166 ?_
                    obtain rfl := Option.some.inj h
                    exact V_iret C rfl rfl dX9_tells_169
          · rw [if_neg c5] at h
            refine V_icmp_ltF C 71 dX9_tells_51 (by decide) c5 ?_
            refine V_aload_n C 1 dX9_tells_54 rfl rfl ?_
            refine fg9_73 (r := 35) C oX_0 rfl dX9_tells_55 ?_
            refine V_aload_n C 0 dX9_tells_58 rfl rfl ?_
            refine V_iload_n C 3 dX9_tells_59 rfl rfl ?_
            refine V_bipush C (w := 10) dX9_tells_60 (by decide) ?_
            refine V_idiv C dX9_tells_62 (by decide) ?_
            refine V_iload_n C 3 dX9_tells_63 rfl rfl ?_
            refine V_bipush C (w := 10) dX9_tells_64 (by decide) ?_
            refine V_irem C dX9_tells_66 (by decide) ?_
            obtain ⟨x67, h67, h⟩ := Option.bind_eq_some_iff.mp h
            refine V_callVi (As := [.ref (G.2.1 t2), .int (l2 / 10), .int (l2 - l2 / 10 * 10)]) C (X3_fitting_ok h67) mw_X3_fitting.1 mw_X3_fitting.2.1 mw_X3_fitting.2.2 q9_208 oX_35.1 oX_35.2.1 (by decide) rfl rfl (by omega) rfl rfl rfl (Nat.le_of_ble_eq_true rfl) dX9_tells_67 ?_
            obtain rfl := Option.some.inj h
            exact V_iret C rfl rfl dX9_tells_70
        · rw [if_neg c4] at h
          refine V_icmp_eqF C 48 dX9_tells_42 (by decide) c4 ?_
          refine V_bipush C (w := (-2)) dX9_tells_45 (by decide) ?_
          obtain rfl := Option.some.inj h
          exact V_iret C rfl rfl dX9_tells_47
      · rw [if_neg c3] at h
        refine V_if_eqF C 31 dX9_tells_25 (by decide) c3 ?_
        refine V_bipush C (w := (-11)) dX9_tells_28 (by decide) ?_
        obtain rfl := Option.some.inj h
        exact V_iret C rfl rfl dX9_tells_30
def X9_film_b34 : Nat → Nat → Int32 → St → Option (Int32 × St)
  | 0, _, _, _ => none
  | F + 1, l2, l3, σ => if isO shX l2 6 3 then (if (σ.1 l2 2) ≤ l3 then (some ((σ.1 l2 2), σ)) else ((X1_warmthBehind l3 σ).bind (fun x49 => (X6_put l2 l3 x49 σ).bind (fun x52 => X9_film_b34 F l2 (l3 + 1) x52)))) else none
set_option maxRecDepth 100000 in
set_option maxHeartbeats 4000000 in
theorem X9_film_b34_ok {G : Gx} {p : Program} {l : Launch} {e : Env} {d : Nat} {s : State} {m : MethodId} {args : Array Value} {below : List Frame} {meth : Method} {c : Code} {A : Nat → Prop} (C : OK shX G p s m args meth c RX9 cX9_film 4 (some FieldType.int) A) (hd : 6 ≤ d) : ∀ (F : Nat) {l2 : Nat} {l3 : Int32} {σ : St} {x : (Int32 × St)} (h : X9_film_b34 F l2 l3 σ = some x), Vw shX G p l e d s m args below meth c 4 A σ 34 [(0, .ref (G.2.1 0)), (2, .ref (G.2.1 l2)), (3, .int l3)] [] (some (.int x.1)) x.2 := by
  intro F
  induction F with
  | zero =>
    intro l2 l3 σ x h
    rw [X9_film_b34] at h
    cases h
  | succ F ih =>
    intro l2 l3 σ x h
    rw [X9_film_b34] at h
    refine V_iload_n C 2 dX9_film_34 rfl rfl ?_
    refine V_aload_n C 1 dX9_film_35 rfl rfl ?_
    have g1 : isO shX l2 6 3 := Decidable.byContradiction (fun g9 => by rw [if_neg g9] at h; cases h)
    rw [if_pos g1] at h
    refine fg9_161 C g1 dX9_film_36 ?_
    by_cases c2 : (σ.1 l2 2) ≤ l3
    · rw [if_pos c2] at h
      refine V_icmp_geT C 61 dX9_film_39 (by decide) c2 ?_
      refine V_aload_n C 1 dX9_film_61 rfl rfl ?_
      refine fg9_161 C g1 dX9_film_62 ?_
      obtain rfl := Option.some.inj h
      exact V_iret C rfl rfl dX9_film_65
    · rw [if_neg c2] at h
      refine V_icmp_geF C 61 dX9_film_39 (by decide) c2 ?_
      refine V_aload_n C 1 dX9_film_42 rfl rfl ?_
      refine V_iload_n C 2 dX9_film_43 rfl rfl ?_
      refine V_aload_n C 0 dX9_film_44 rfl rfl ?_
      refine fg9_57 (r := 27) C oX_0 rfl dX9_film_45 ?_
      refine V_iload_n C 2 dX9_film_48 rfl rfl ?_
      obtain ⟨x49, h49, h⟩ := Option.bind_eq_some_iff.mp h
      refine V_callVi (As := [.int l3]) C (X1_warmthBehind_ok h49) mw_X1_warmthBehind.1 mw_X1_warmthBehind.2.1 mw_X1_warmthBehind.2.2 q9_164 oX_27.1 oX_27.2.1 (by decide) rfl rfl (by omega) rfl rfl rfl (Nat.le_of_ble_eq_true rfl) dX9_film_49 ?_
      obtain ⟨x52, h52, h⟩ := Option.bind_eq_some_iff.mp h
      refine V_callVv (As := [.int l3, .int x49]) C (X6_put_ok h52) mw_X6_put.1 mw_X6_put.2.1 mw_X6_put.2.2 q9_240 g1.1 g1.2.1 (by decide) rfl rfl (by omega) rfl rfl rfl (Nat.le_of_ble_eq_true rfl) dX9_film_52 ?_
      refine V_iinc C (w := (l3 + 1)) (lv' := [(3, .int (l3 + 1)), (0, .ref (G.2.1 0)), (2, .ref (G.2.1 l2))]) 2 dX9_film_55 rfl (congrArg (l3 + ·) (show Int32.ofInt 1 = 1 by decide)) (by decide) rfl ?_
      refine V_goto C 34 dX9_film_58 (by decide) ?_
      refine V_sub (lv' := [(0, .ref (G.2.1 0)), (2, .ref (G.2.1 l2)), (3, .int (l3 + 1))]) [1, 2, 0] rfl ?_
      exact ih h
def X9_film (l1 : Int32) (σ : St) : Option (Int32 × St) := (X9_sheetOf l1 σ).bind (fun x2 => Option.elim x2 (some ((-2), σ)) (fun t2 => (X1_comeByNumber σ).bind (fun x17 => if isO shX t2 6 3 then ((X6_become t2 0 (x17.1 1 5) x17).bind (fun x29 => X9_film_b34 FU t2 0 x29)) else none)))
set_option maxRecDepth 100000 in
set_option maxHeartbeats 4000000 in
theorem X9_film_ok {l1 : Int32} {σ : St} {x : (Int32 × St)} (h : X9_film l1 σ = some x) : Ct shX (6) yX9_film cX9_film 4 (some FieldType.int) (fun G => [.ref (G.2.1 0), .int l1]) σ (fun G => some (.int x.1)) x.2 := by
  refine Ct.of mw_X9_film.1 (by decide +kernel) (fun G => Nat.le_of_ble_eq_true rfl) (fun G p l e d s m args below meth c A hd C => ?_)
  refine (?_ : Vw shX G p l e d s m args below meth c 4 A σ 0 [(0, .ref (G.2.1 0)), (1, .int l1)] [] (some (.int x.1)) x.2)
  unfold X9_film at h
  refine V_aload_n C 0 dX9_film_0 rfl rfl ?_
  refine V_iload_n C 1 dX9_film_1 rfl rfl ?_
  obtain ⟨x2, h2, h⟩ := Option.bind_eq_some_iff.mp h
  rcases x2 with _ | t2
  · dsimp only [Option.elim] at h
    refine V_callVn (As := [.int l1]) C (X9_sheetOf_ok h2) mw_X9_sheetOf.1 mw_X9_sheetOf.2.1 mw_X9_sheetOf.2.2 q9_141 oX_0.1 oX_0.2.1 (by decide) rfl rfl (by omega) rfl rfl rfl (Nat.le_of_ble_eq_true rfl) dX9_film_2 ?_
    refine V_astore_nN C (lv' := [(2, .null), (0, .ref (G.2.1 0)), (1, .int l1)]) dX9_film_5 rfl (by decide) rfl ?_
    refine V_aload_nN C 0 dX9_film_6 rfl rfl ?_
    refine V_ifnonnullF C dX9_film_7 ?_
    refine V_bipush C (w := (-2)) dX9_film_10 (by decide) ?_
    obtain rfl := Option.some.inj h
    exact V_iret C rfl rfl dX9_film_12
  · dsimp only [Option.elim] at h
    refine V_callVr (As := [.int l1]) C (X9_sheetOf_ok h2) mw_X9_sheetOf.1 mw_X9_sheetOf.2.1 mw_X9_sheetOf.2.2 q9_141 oX_0.1 oX_0.2.1 (by decide) rfl rfl (by omega) rfl rfl rfl (Nat.le_of_ble_eq_true rfl) dX9_film_2 ?_
    refine V_astore_n C (lv' := [(2, .ref (G.2.1 t2)), (0, .ref (G.2.1 0)), (1, .int l1)]) dX9_film_5 rfl (by decide) rfl ?_
    refine V_aload_n C 0 dX9_film_6 rfl rfl ?_
    refine V_ifnonnullT C 13 dX9_film_7 (by decide) ?_
    refine V_aload_n C 1 dX9_film_13 rfl rfl ?_
    refine fg9_57 (r := 27) C oX_0 rfl dX9_film_14 ?_
    obtain ⟨x17, h17, h⟩ := Option.bind_eq_some_iff.mp h
    refine V_callVv (As := []) C (X1_comeByNumber_ok h17) mw_X1_comeByNumber.1 mw_X1_comeByNumber.2.1 mw_X1_comeByNumber.2.2 q9_233 oX_27.1 oX_27.2.1 (by decide) rfl rfl (by omega) rfl rfl rfl (Nat.le_of_ble_eq_true rfl) dX9_film_17 ?_
    refine V_aload_n C 0 dX9_film_20 rfl rfl ?_
    refine V_iconst C (w := 0) dX9_film_21 (by decide) ?_
    refine V_aload_n C 1 dX9_film_22 rfl rfl ?_
    refine fg9_10 (r := 1) C oX_0 rfl dX9_film_23 ?_
    refine fg9_196 C oX_1 dX9_film_26 ?_
    have g3 : isO shX t2 6 3 := Decidable.byContradiction (fun g9 => by rw [if_neg g9] at h; cases h)
    rw [if_pos g3] at h
    obtain ⟨x29, h29, h⟩ := Option.bind_eq_some_iff.mp h
    refine V_callVv (As := [.int 0, .int (x17.1 1 5)]) C (X6_become_ok h29) mw_X6_become.1 mw_X6_become.2.1 mw_X6_become.2.2 q9_236 g3.1 g3.2.1 (by decide) rfl rfl (by omega) rfl rfl rfl (Nat.le_of_ble_eq_true rfl) dX9_film_29 ?_
    refine V_iconst C (w := 0) dX9_film_32 (by decide) ?_
    refine V_istore_n C (lv' := [(3, .int 0), (2, .ref (G.2.1 t2)), (0, .ref (G.2.1 0)), (1, .int l1)]) dX9_film_33 rfl (by decide) rfl ?_
    refine V_sub (lv' := [(0, .ref (G.2.1 0)), (2, .ref (G.2.1 t2)), (3, .int 0)]) [2, 1, 0] rfl ?_
    exact X9_film_b34_ok C hd FU h
def X9_drawn (l1 : Int32) (σ : St) : Option (Int32 × St) := (X3_comeDrawn l1 σ).bind (fun x5 => (X1_warmthNow x5).bind (fun x12 => some (x12, x5)))
set_option maxRecDepth 100000 in
set_option maxHeartbeats 4000000 in
theorem X9_drawn_ok {l1 : Int32} {σ : St} {x : (Int32 × St)} (h : X9_drawn l1 σ = some x) : Ct shX (7) yX9_drawn cX9_drawn 2 (some FieldType.int) (fun G => [.ref (G.2.1 0), .int l1]) σ (fun G => some (.int x.1)) x.2 := by
  refine Ct.of mw_X9_drawn.1 (by decide +kernel) (fun G => Nat.le_of_ble_eq_true rfl) (fun G p l e d s m args below meth c A hd C => ?_)
  refine (?_ : Vw shX G p l e d s m args below meth c 2 A σ 0 [(0, .ref (G.2.1 0)), (1, .int l1)] [] (some (.int x.1)) x.2)
  unfold X9_drawn at h
  refine V_aload_n C 0 dX9_drawn_0 rfl rfl ?_
  refine fg9_73 (r := 35) C oX_0 rfl dX9_drawn_1 ?_
  refine V_iload_n C 1 dX9_drawn_4 rfl rfl ?_
  obtain ⟨x5, h5, h⟩ := Option.bind_eq_some_iff.mp h
  refine V_callVv (As := [.int l1]) C (X3_comeDrawn_ok h5) mw_X3_comeDrawn.1 mw_X3_comeDrawn.2.1 mw_X3_comeDrawn.2.2 q9_243 oX_35.1 oX_35.2.1 (by decide) rfl rfl (by omega) rfl rfl rfl (Nat.le_of_ble_eq_true rfl) dX9_drawn_5 ?_
  refine V_aload_n C 0 dX9_drawn_8 rfl rfl ?_
  refine fg9_57 (r := 27) C oX_0 rfl dX9_drawn_9 ?_
  obtain ⟨x12, h12, h⟩ := Option.bind_eq_some_iff.mp h
  refine V_callVi (As := []) C (X1_warmthNow_ok h12) mw_X1_warmthNow.1 mw_X1_warmthNow.2.1 mw_X1_warmthNow.2.2 q9_152 oX_27.1 oX_27.2.1 (by decide) rfl rfl (by omega) rfl rfl rfl (Nat.le_of_ble_eq_true rfl) dX9_drawn_12 ?_
  obtain rfl := Option.some.inj h
  exact V_iret C rfl rfl dX9_drawn_15
def X9_commonDivisor_b7 : Nat → Int32 → Int32 → Int32 → Option Int32
  | 0, _, _, _ => none
  | F + 1, l2, l3, l4 => if 100 ≤ l4 then (some l2) else (if l3 = 0 then (some l2) else (if l3 = 0 then none else (X9_commonDivisor_b7 F l3 (l2 - l2 / l3 * l3) (l4 + 1))))
set_option maxRecDepth 100000 in
set_option maxHeartbeats 4000000 in
theorem X9_commonDivisor_b7_ok {G : Gx} {p : Program} {l : Launch} {e : Env} {d : Nat} {s : State} {m : MethodId} {args : Array Value} {below : List Frame} {meth : Method} {c : Code} {A : Nat → Prop} (C : OK shX G p s m args meth c RX9 cX9_commonDivisor 6 (some FieldType.int) A) (hd : 1 ≤ d) : ∀ (F : Nat) {l2 : Int32} {l3 : Int32} {l4 : Int32} {σ : St} {x : Int32} (h : X9_commonDivisor_b7 F l2 l3 l4 = some x), Vw shX G p l e d s m args below meth c 6 A σ 7 [(2, .int l2), (3, .int l3), (4, .int l4)] [] (some (.int x)) σ := by
  intro F
  induction F with
  | zero =>
    intro l2 l3 l4 σ x h
    rw [X9_commonDivisor_b7] at h
    cases h
  | succ F ih =>
    intro l2 l3 l4 σ x h
    rw [X9_commonDivisor_b7] at h
    refine V_iload C 2 dX9_commonDivisor_7 rfl ?_
    refine V_bipush C (w := 100) dX9_commonDivisor_9 (by decide) ?_
    by_cases c1 : 100 ≤ l4
    · rw [if_pos c1] at h
      refine V_icmp_geT C 34 dX9_commonDivisor_11 (by decide) c1 ?_
      refine V_iload_n C 0 dX9_commonDivisor_34 rfl rfl ?_
      obtain rfl := Option.some.inj h
      exact V_iret C rfl rfl dX9_commonDivisor_35
    · rw [if_neg c1] at h
      refine V_icmp_geF C 34 dX9_commonDivisor_11 (by decide) c1 ?_
      refine V_iload_n C 1 dX9_commonDivisor_14 rfl rfl ?_
      by_cases c2 : l3 = 0
      · rw [if_pos c2] at h
        refine V_if_eqT C 34 dX9_commonDivisor_15 (by decide) c2 ?_
        refine V_iload_n C 0 dX9_commonDivisor_34 rfl rfl ?_
        obtain rfl := Option.some.inj h
        exact V_iret C rfl rfl dX9_commonDivisor_35
      · rw [if_neg c2] at h
        refine V_if_eqF C 34 dX9_commonDivisor_15 (by decide) c2 ?_
        refine V_iload_n C 0 dX9_commonDivisor_18 rfl rfl ?_
        refine V_iload_n C 1 dX9_commonDivisor_19 rfl rfl ?_
        have g3 : ¬ (l3 = 0) := fun g9 => by rw [if_pos g9] at h; cases h
        rw [if_neg g3] at h
        refine V_irem C dX9_commonDivisor_20 g3 ?_
        refine V_istore C (lv' := [(5, .int (l2 - l2 / l3 * l3)), (2, .int l2), (3, .int l3), (4, .int l4)]) dX9_commonDivisor_21 (by decide) rfl ?_
        refine V_iload_n C 2 dX9_commonDivisor_23 rfl rfl ?_
        refine V_istore_n C (lv' := [(2, .int l3), (5, .int (l2 - l2 / l3 * l3)), (3, .int l3), (4, .int l4)]) dX9_commonDivisor_24 rfl (by decide) rfl ?_
        refine V_iload C 1 dX9_commonDivisor_25 rfl ?_
        refine V_istore_n C (lv' := [(3, .int (l2 - l2 / l3 * l3)), (2, .int l3), (5, .int (l2 - l2 / l3 * l3)), (4, .int l4)]) dX9_commonDivisor_27 rfl (by decide) rfl ?_
        refine V_iinc C (w := (l4 + 1)) (lv' := [(4, .int (l4 + 1)), (3, .int (l2 - l2 / l3 * l3)), (2, .int l3), (5, .int (l2 - l2 / l3 * l3))]) 3 dX9_commonDivisor_28 rfl (congrArg (l4 + ·) (show Int32.ofInt 1 = 1 by decide)) (by decide) rfl ?_
        refine V_goto C 7 dX9_commonDivisor_31 (by decide) ?_
        refine V_sub (lv' := [(2, .int l3), (3, .int (l2 - l2 / l3 * l3)), (4, .int (l4 + 1))]) [2, 1, 0] rfl ?_
        exact ih h
def X9_commonDivisor (l0 : Int32) (l1 : Int32) : Option Int32 := X9_commonDivisor_b7 FU l1 l0 0
set_option maxRecDepth 100000 in
set_option maxHeartbeats 4000000 in
theorem X9_commonDivisor_ok {l0 : Int32} {l1 : Int32} {σ : St} {x : Int32} (h : X9_commonDivisor l0 l1 = some x) : Ct shX (1) yX9_commonDivisor cX9_commonDivisor 6 (some FieldType.int) (fun G => [.int l0, .int l1]) σ (fun G => some (.int x)) σ := by
  refine Ct.of mw_X9_commonDivisor.1 (by decide +kernel) (fun G => Nat.le_of_ble_eq_true rfl) (fun G p l e d s m args below meth c A hd C => ?_)
  refine (?_ : Vw shX G p l e d s m args below meth c 6 A σ 0 [(0, .int l0), (1, .int l1)] [] (some (.int x)) σ)
  unfold X9_commonDivisor at h
  refine V_iload_n C 1 dX9_commonDivisor_0 rfl rfl ?_
  refine V_istore_n C (lv' := [(2, .int l1), (0, .int l0), (1, .int l1)]) dX9_commonDivisor_1 rfl (by decide) rfl ?_
  refine V_iload_n C 1 dX9_commonDivisor_2 rfl rfl ?_
  refine V_istore_n C (lv' := [(3, .int l0), (2, .int l1), (0, .int l0), (1, .int l1)]) dX9_commonDivisor_3 rfl (by decide) rfl ?_
  refine V_iconst C (w := 0) dX9_commonDivisor_4 (by decide) ?_
  refine V_istore C (lv' := [(4, .int 0), (3, .int l0), (2, .int l1), (0, .int l0), (1, .int l1)]) dX9_commonDivisor_5 (by decide) rfl ?_
  refine V_sub (lv' := [(2, .int l1), (3, .int l0), (4, .int 0)]) [2, 1, 0] rfl ?_
  exact X9_commonDivisor_b7_ok C hd FU h
def X9_chance_b30 : Nat → Int32 → Int32 → Int32 → Int32 → Int32 → St → Option (Int64 × St)
  | 0, _, _, _, _, _, _ => none
  | F + 1, l1, l2, l3, l4, l5, σ => if l2 ≤ l5 then ((X9_commonDivisor l4 l2).bind (fun x69 => if 1 ≤ x69 then (if l3 = 0 then (if x69 = 0 then none else (some ((Int32.toInt64 (l4 / x69)), σ))) else (if x69 = 0 then none else (some ((Int32.toInt64 (l2 / x69)), σ)))) else (some ((-4611686018427387904), σ)))) else ((X3_comeDrawn (l1 + l5) σ).bind (fun x44 => (X1_screamsSoFar x44).bind (fun x51 => if x51 ≤ 0 then (X9_chance_b30 F l1 l2 l3 l4 (l5 + 1) x44) else (X9_chance_b30 F l1 l2 l3 (l4 + 1) (l5 + 1) x44))))
set_option maxRecDepth 100000 in
set_option maxHeartbeats 4000000 in
theorem X9_chance_b30_ok {G : Gx} {p : Program} {l : Launch} {e : Env} {d : Nat} {s : State} {m : MethodId} {args : Array Value} {below : List Frame} {meth : Method} {c : Code} {A : Nat → Prop} (C : OK shX G p s m args meth c RX9 cX9_chance 6 (some FieldType.long) A) (hd : 7 ≤ d) : ∀ (F : Nat) {l1 : Int32} {l2 : Int32} {l3 : Int32} {l4 : Int32} {l5 : Int32} {σ : St} {x : (Int64 × St)} (h : X9_chance_b30 F l1 l2 l3 l4 l5 σ = some x), Vw shX G p l e d s m args below meth c 6 A σ 30 [(0, .ref (G.2.1 0)), (1, .int l1), (2, .int l2), (3, .int l3), (4, .int l4), (5, .int l5)] [] (some (.long x.1)) x.2 := by
  intro F
  induction F with
  | zero =>
    intro l1 l2 l3 l4 l5 σ x h
    rw [X9_chance_b30] at h
    cases h
  | succ F ih =>
    intro l1 l2 l3 l4 l5 σ x h
    rw [X9_chance_b30] at h
    refine V_iload C 5 dX9_chance_30 rfl ?_
    refine V_iload_n C 2 dX9_chance_32 rfl rfl ?_
    by_cases c1 : l2 ≤ l5
    · rw [if_pos c1] at h
      refine V_icmp_geT C 66 dX9_chance_33 (by decide) c1 ?_
      refine V_iload C 4 dX9_chance_66 rfl ?_
      refine V_iload_n C 2 dX9_chance_68 rfl rfl ?_
      obtain ⟨x69, h69, h⟩ := Option.bind_eq_some_iff.mp h
      refine V_callSi (As := [.int l4, .int l2]) C (X9_commonDivisor_ok h69) mw_X9_commonDivisor.1 mw_X9_commonDivisor.2 q9_248 (by omega) rfl rfl rfl (Nat.le_of_ble_eq_true rfl) dX9_chance_69 ?_
      refine V_istore C (lv' := [(5, .int x69), (0, .ref (G.2.1 0)), (1, .int l1), (2, .int l2), (3, .int l3), (4, .int l4)]) dX9_chance_72 (by decide) rfl ?_
      refine V_iload C 0 dX9_chance_74 rfl ?_
      refine V_iconst C (w := 1) dX9_chance_76 (by decide) ?_
      by_cases c2 : 1 ≤ x69
      · rw [if_pos c2] at h
        refine V_icmp_geT C 84 dX9_chance_77 (by decide) c2 ?_
        refine V_iload_n C 4 dX9_chance_84 rfl rfl ?_
        by_cases c3 : l3 = 0
        · rw [if_pos c3] at h
          refine V_if_neF C 97 dX9_chance_85 (by decide) c3 ?_
          refine V_iload C 5 dX9_chance_88 rfl ?_
          refine V_iload C 0 dX9_chance_90 rfl ?_
          have g5 : ¬ (x69 = 0) := fun g9 => by rw [if_pos g9] at h; cases h
          rw [if_neg g5] at h
          refine V_idiv C dX9_chance_92 g5 ?_
          refine V_i2l C dX9_chance_93 ?_
          refine V_goto C 102 dX9_chance_94 (by decide) ?_
          obtain rfl := Option.some.inj h
          exact V_lret C rfl dX9_chance_102
        · rw [if_neg c3] at h
          refine V_if_neT C 97 dX9_chance_85 (by decide) c3 ?_
          refine V_iload_n C 3 dX9_chance_97 rfl rfl ?_
          refine V_iload C 0 dX9_chance_98 rfl ?_
          have g4 : ¬ (x69 = 0) := fun g9 => by rw [if_pos g9] at h; cases h
          rw [if_neg g4] at h
          refine V_idiv C dX9_chance_100 g4 ?_
          refine V_i2l C dX9_chance_101 ?_
          obtain rfl := Option.some.inj h
          exact V_lret C rfl dX9_chance_102
      · rw [if_neg c2] at h
        refine V_icmp_geF C 84 dX9_chance_77 (by decide) c2 ?_
        refine V_ldc2 C (w := (-4611686018427387904)) dX9_chance_80 qk9_246 ?_
        obtain rfl := Option.some.inj h
        exact V_lret C rfl dX9_chance_83
    · rw [if_neg c1] at h
      refine V_icmp_geF C 66 dX9_chance_33 (by decide) c1 ?_
      refine V_aload_n C 0 dX9_chance_36 rfl rfl ?_
      refine fg9_73 (r := 35) C oX_0 rfl dX9_chance_37 ?_
      refine V_iload_n C 1 dX9_chance_40 rfl rfl ?_
      refine V_iload C 5 dX9_chance_41 rfl ?_
      refine V_iadd C dX9_chance_43 ?_
      obtain ⟨x44, h44, h⟩ := Option.bind_eq_some_iff.mp h
      refine V_callVv (As := [.int (l1 + l5)]) C (X3_comeDrawn_ok h44) mw_X3_comeDrawn.1 mw_X3_comeDrawn.2.1 mw_X3_comeDrawn.2.2 q9_243 oX_35.1 oX_35.2.1 (by decide) rfl rfl (by omega) rfl rfl rfl (Nat.le_of_ble_eq_true rfl) dX9_chance_44 ?_
      refine V_aload_n C 0 dX9_chance_47 rfl rfl ?_
      refine fg9_57 (r := 27) C oX_0 rfl dX9_chance_48 ?_
      obtain ⟨x51, h51, h⟩ := Option.bind_eq_some_iff.mp h
      refine V_callVi (As := []) C (X1_screamsSoFar_ok h51) mw_X1_screamsSoFar.1 mw_X1_screamsSoFar.2.1 mw_X1_screamsSoFar.2.2 q9_158 oX_27.1 oX_27.2.1 (by decide) rfl rfl (by omega) rfl rfl rfl (Nat.le_of_ble_eq_true rfl) dX9_chance_51 ?_
      by_cases c6 : x51 ≤ 0
      · rw [if_pos c6] at h
        refine V_if_leT C 60 dX9_chance_54 (by decide) c6 ?_
        refine V_iinc C (w := (l5 + 1)) (lv' := [(5, .int (l5 + 1)), (0, .ref (G.2.1 0)), (1, .int l1), (2, .int l2), (3, .int l3), (4, .int l4)]) 5 dX9_chance_60 rfl (congrArg (l5 + ·) (show Int32.ofInt 1 = 1 by decide)) (by decide) rfl ?_
        refine V_goto C 30 dX9_chance_63 (by decide) ?_
        refine V_sub (lv' := [(0, .ref (G.2.1 0)), (1, .int l1), (2, .int l2), (3, .int l3), (4, .int l4), (5, .int (l5 + 1))]) [1, 2, 3, 4, 5, 0] rfl ?_
        exact ih h
      · rw [if_neg c6] at h
        refine V_if_leF C 60 dX9_chance_54 (by decide) c6 ?_
        refine V_iinc C (w := (l4 + 1)) (lv' := [(4, .int (l4 + 1)), (0, .ref (G.2.1 0)), (1, .int l1), (2, .int l2), (3, .int l3), (5, .int l5)]) 4 dX9_chance_57 rfl (congrArg (l4 + ·) (show Int32.ofInt 1 = 1 by decide)) (by decide) rfl ?_
        refine V_iinc C (w := (l5 + 1)) (lv' := [(5, .int (l5 + 1)), (4, .int (l4 + 1)), (0, .ref (G.2.1 0)), (1, .int l1), (2, .int l2), (3, .int l3)]) 5 dX9_chance_60 rfl (congrArg (l5 + ·) (show Int32.ofInt 1 = 1 by decide)) (by decide) rfl ?_
        refine V_goto C 30 dX9_chance_63 (by decide) ?_
        refine V_sub (lv' := [(0, .ref (G.2.1 0)), (1, .int l1), (2, .int l2), (3, .int l3), (4, .int (l4 + 1)), (5, .int (l5 + 1))]) [2, 3, 4, 5, 1, 0] rfl ?_
        exact ih h
def X9_chance (l1 : Int32) (l2 : Int32) (l3 : Int32) (σ : St) : Option (Int64 × St) := if l2 < 1 then (some ((-4611686018427387904), σ)) else (if 20 < l2 then (some ((-4611686018427387904), σ)) else (if l3 < 0 then (some ((-4611686018427387904), σ)) else (if l3 ≤ 1 then (X9_chance_b30 FU l1 l2 l3 0 0 σ) else (some ((-4611686018427387904), σ)))))
set_option maxRecDepth 100000 in
set_option maxHeartbeats 4000000 in
theorem X9_chance_ok {l1 : Int32} {l2 : Int32} {l3 : Int32} {σ : St} {x : (Int64 × St)} (h : X9_chance l1 l2 l3 σ = some x) : Ct shX (7) yX9_chance cX9_chance 6 (some FieldType.long) (fun G => [.ref (G.2.1 0), .int l1, .int l2, .int l3]) σ (fun G => some (.long x.1)) x.2 := by
  refine Ct.of mw_X9_chance.1 (by decide +kernel) (fun G => Nat.le_of_ble_eq_true rfl) (fun G p l e d s m args below meth c A hd C => ?_)
  refine (?_ : Vw shX G p l e d s m args below meth c 6 A σ 0 [(0, .ref (G.2.1 0)), (1, .int l1), (2, .int l2), (3, .int l3)] [] (some (.long x.1)) x.2)
  unfold X9_chance at h
  refine V_iload_n C 2 dX9_chance_0 rfl rfl ?_
  refine V_iconst C (w := 1) dX9_chance_1 (by decide) ?_
  by_cases c7 : l2 < 1
  · rw [if_pos c7] at h
    refine V_icmp_ltT C 20 dX9_chance_2 (by decide) c7 ?_
    refine V_ldc2 C (w := (-4611686018427387904)) dX9_chance_20 qk9_246 ?_
    obtain rfl := Option.some.inj h
    exact V_lret C rfl dX9_chance_23
  · rw [if_neg c7] at h
    refine V_icmp_ltF C 20 dX9_chance_2 (by decide) c7 ?_
    refine V_iload_n C 2 dX9_chance_5 rfl rfl ?_
    refine V_bipush C (w := 20) dX9_chance_6 (by decide) ?_
    by_cases c8 : 20 < l2
    · rw [if_pos c8] at h
      refine V_icmp_gtT C 20 dX9_chance_8 (by decide) c8 ?_
      refine V_ldc2 C (w := (-4611686018427387904)) dX9_chance_20 qk9_246 ?_
      obtain rfl := Option.some.inj h
      exact V_lret C rfl dX9_chance_23
    · rw [if_neg c8] at h
      refine V_icmp_gtF C 20 dX9_chance_8 (by decide) c8 ?_
      refine V_iload_n C 3 dX9_chance_11 rfl rfl ?_
      by_cases c9 : l3 < 0
      · rw [if_pos c9] at h
        refine V_if_ltT C 20 dX9_chance_12 (by decide) c9 ?_
        refine V_ldc2 C (w := (-4611686018427387904)) dX9_chance_20 qk9_246 ?_
        obtain rfl := Option.some.inj h
        exact V_lret C rfl dX9_chance_23
      · rw [if_neg c9] at h
        refine V_if_ltF C 20 dX9_chance_12 (by decide) c9 ?_
        refine V_iload_n C 3 dX9_chance_15 rfl rfl ?_
        refine V_iconst C (w := 1) dX9_chance_16 (by decide) ?_
        by_cases c10 : l3 ≤ 1
        · rw [if_pos c10] at h
          refine V_icmp_leT C 24 dX9_chance_17 (by decide) c10 ?_
          refine V_iconst C (w := 0) dX9_chance_24 (by decide) ?_
          refine V_istore C (lv' := [(4, .int 0), (0, .ref (G.2.1 0)), (1, .int l1), (2, .int l2), (3, .int l3)]) dX9_chance_25 (by decide) rfl ?_
          refine V_iconst C (w := 0) dX9_chance_27 (by decide) ?_
          refine V_istore C (lv' := [(5, .int 0), (4, .int 0), (0, .ref (G.2.1 0)), (1, .int l1), (2, .int l2), (3, .int l3)]) dX9_chance_28 (by decide) rfl ?_
          refine V_sub (lv' := [(0, .ref (G.2.1 0)), (1, .int l1), (2, .int l2), (3, .int l3), (4, .int 0), (5, .int 0)]) [2, 3, 4, 5, 1, 0] rfl ?_
          exact X9_chance_b30_ok C hd FU h
        · rw [if_neg c10] at h
          refine V_icmp_leF C 24 dX9_chance_17 (by decide) c10 ?_
          refine V_ldc2 C (w := (-4611686018427387904)) dX9_chance_20 qk9_246 ?_
          obtain rfl := Option.some.inj h
          exact V_lret C rfl dX9_chance_23
def X9_image (σ : St) : Option (Int32 × St) := (X5_becomeAs 6 1 σ).bind (fun x8 => some (((up x8 0 2 1).1 1 5), (up x8 0 2 1)))
set_option maxRecDepth 100000 in
set_option maxHeartbeats 4000000 in
theorem X9_image_ok {σ : St} {x : (Int32 × St)} (h : X9_image σ = some x) : Ct shX (2) yX9_image cX9_image 1 (some FieldType.int) (fun G => [.ref (G.2.1 0)]) σ (fun G => some (.int x.1)) x.2 := by
  refine Ct.of mw_X9_image.1 (by decide +kernel) (fun G => Nat.le_of_ble_eq_true rfl) (fun G p l e d s m args below meth c A hd C => ?_)
  refine (?_ : Vw shX G p l e d s m args below meth c 1 A σ 0 [(0, .ref (G.2.1 0))] [] (some (.int x.1)) x.2)
  unfold X9_image at h
  refine V_aload_n C 0 dX9_image_0 rfl rfl ?_
  refine fg9_16 (r := 6) C oX_0 rfl dX9_image_1 ?_
  refine V_aload_n C 0 dX9_image_4 rfl rfl ?_
  refine fg9_10 (r := 1) C oX_0 rfl dX9_image_5 ?_
  obtain ⟨x8, h8, h⟩ := Option.bind_eq_some_iff.mp h
  refine V_callVv (As := [.ref (G.2.1 1)]) C (X5_becomeAs_ok h8) mw_X5_becomeAs.1 mw_X5_becomeAs.2.1 mw_X5_becomeAs.2.2 q9_251 oX_6.1 oX_6.2.1 (by decide) rfl rfl (by omega) rfl rfl rfl (Nat.le_of_ble_eq_true rfl) dX9_image_8 ?_
  refine V_aload_n C 0 dX9_image_11 rfl rfl ?_
  refine V_iconst C (w := 1) dX9_image_12 (by decide) ?_
  refine fp9_19 C oX_0 (Or.inr rfl) dX9_image_13 ?_
  refine V_aload_n C 0 dX9_image_16 rfl rfl ?_
  refine fg9_10 (r := 1) C oX_0 rfl dX9_image_17 ?_
  refine fg9_196 C oX_1 dX9_image_20 ?_
  obtain rfl := Option.some.inj h
  exact V_iret C rfl rfl dX9_image_23
def X9_back (σ : St) : Option (Int32 × St) := if (σ.1 0 2) = 0 then (some ((-3), σ)) else ((X5_becomeAs 1 6 σ).bind (fun x18 => some ((x18.1 1 5), x18)))
set_option maxRecDepth 100000 in
set_option maxHeartbeats 4000000 in
theorem X9_back_ok {σ : St} {x : (Int32 × St)} (h : X9_back σ = some x) : Ct shX (2) yX9_back cX9_back 1 (some FieldType.int) (fun G => [.ref (G.2.1 0)]) σ (fun G => some (.int x.1)) x.2 := by
  refine Ct.of mw_X9_back.1 (by decide +kernel) (fun G => Nat.le_of_ble_eq_true rfl) (fun G p l e d s m args below meth c A hd C => ?_)
  refine (?_ : Vw shX G p l e d s m args below meth c 1 A σ 0 [(0, .ref (G.2.1 0))] [] (some (.int x.1)) x.2)
  unfold X9_back at h
  refine V_aload_n C 0 dX9_back_0 rfl rfl ?_
  refine fg9_19 C oX_0 dX9_back_1 ?_
  by_cases c1 : (σ.1 0 2) = 0
  · rw [if_pos c1] at h
    refine V_if_neF C 10 dX9_back_4 (by decide) c1 ?_
    refine V_bipush C (w := (-3)) dX9_back_7 (by decide) ?_
    obtain rfl := Option.some.inj h
    exact V_iret C rfl rfl dX9_back_9
  · rw [if_neg c1] at h
    refine V_if_neT C 10 dX9_back_4 (by decide) c1 ?_
    refine V_aload_n C 0 dX9_back_10 rfl rfl ?_
    refine fg9_10 (r := 1) C oX_0 rfl dX9_back_11 ?_
    refine V_aload_n C 0 dX9_back_14 rfl rfl ?_
    refine fg9_16 (r := 6) C oX_0 rfl dX9_back_15 ?_
    obtain ⟨x18, h18, h⟩ := Option.bind_eq_some_iff.mp h
    refine V_callVv (As := [.ref (G.2.1 6)]) C (X5_becomeAs_ok h18) mw_X5_becomeAs.1 mw_X5_becomeAs.2.1 mw_X5_becomeAs.2.2 q9_251 oX_1.1 oX_1.2.1 (by decide) rfl rfl (by omega) rfl rfl rfl (Nat.le_of_ble_eq_true rfl) dX9_back_18 ?_
    refine V_aload_n C 0 dX9_back_21 rfl rfl ?_
    refine fg9_10 (r := 1) C oX_0 rfl dX9_back_22 ?_
    refine fg9_196 C oX_1 dX9_back_25 ?_
    obtain rfl := Option.some.inj h
    exact V_iret C rfl rfl dX9_back_28
def X9_count (l1 : Int32) (σ : St) : Option Int32 := if l1 = 0 then (some (σ.1 1 5)) else (if l1 = 1 then ((X5_likedGuests 1 σ).bind (fun x56 => some x56)) else (if l1 = 2 then (some (σ.1 1 3)) else (if l1 = 3 then (some (σ.1 1 2)) else (if l1 = 4 then (some (σ.1 13 5)) else (if l1 = 5 then (some (σ.1 11 1)) else (if l1 = 6 then (some (σ.1 1 4)) else (some (-2))))))))
set_option maxRecDepth 100000 in
set_option maxHeartbeats 4000000 in
theorem X9_count_ok {l1 : Int32} {σ : St} {x : Int32} (h : X9_count l1 σ = some x) : Ct shX (2) yX9_count cX9_count 2 (some FieldType.int) (fun G => [.ref (G.2.1 0), .int l1]) σ (fun G => some (.int x)) σ := by
  refine Ct.of mw_X9_count.1 (by decide +kernel) (fun G => Nat.le_of_ble_eq_true rfl) (fun G p l e d s m args below meth c A hd C => ?_)
  refine (?_ : Vw shX G p l e d s m args below meth c 2 A σ 0 [(0, .ref (G.2.1 0)), (1, .int l1)] [] (some (.int x)) σ)
  unfold X9_count at h
  refine V_iload_n C 1 dX9_count_0 rfl rfl ?_
  by_cases c1 : l1 = 0
  · rw [if_pos c1] at h
    refine V_tableIn (off := 43) C 44 dX9_count_1 (by rw [c1]; decide) (by decide) ?_
    refine V_aload_n C 0 dX9_count_44 rfl rfl ?_
    refine fg9_10 (r := 1) C oX_0 rfl dX9_count_45 ?_
    refine fg9_196 C oX_1 dX9_count_48 ?_
    obtain rfl := Option.some.inj h
    exact V_iret C rfl rfl dX9_count_51
  · rw [if_neg c1] at h
    by_cases c2 : l1 = 1
    · rw [if_pos c2] at h
      refine V_tableIn (off := 51) C 52 dX9_count_1 (by rw [c2]; decide) (by decide) ?_
      refine V_aload_n C 0 dX9_count_52 rfl rfl ?_
      refine fg9_10 (r := 1) C oX_0 rfl dX9_count_53 ?_
      obtain ⟨x56, h56, h⟩ := Option.bind_eq_some_iff.mp h
      refine V_callVi (As := []) C (X5_likedGuests_ok h56) mw_X5_likedGuests.1 mw_X5_likedGuests.2.1 mw_X5_likedGuests.2.2 q9_255 oX_1.1 oX_1.2.1 (by decide) rfl rfl (by omega) rfl rfl rfl (Nat.le_of_ble_eq_true rfl) dX9_count_56 ?_
      obtain rfl := Option.some.inj h
      exact V_iret C rfl rfl dX9_count_59
    · rw [if_neg c2] at h
      by_cases c3 : l1 = 2
      · rw [if_pos c3] at h
        refine V_tableIn (off := 59) C 60 dX9_count_1 (by rw [c3]; decide) (by decide) ?_
        refine V_aload_n C 0 dX9_count_60 rfl rfl ?_
        refine fg9_10 (r := 1) C oX_0 rfl dX9_count_61 ?_
        refine fg9_177 C oX_1 dX9_count_64 ?_
        obtain rfl := Option.some.inj h
        exact V_iret C rfl rfl dX9_count_67
      · rw [if_neg c3] at h
        by_cases c4 : l1 = 3
        · rw [if_pos c4] at h
          refine V_tableIn (off := 67) C 68 dX9_count_1 (by rw [c4]; decide) (by decide) ?_
          refine V_aload_n C 0 dX9_count_68 rfl rfl ?_
          refine fg9_10 (r := 1) C oX_0 rfl dX9_count_69 ?_
          refine fg9_167 C oX_1 dX9_count_72 ?_
          obtain rfl := Option.some.inj h
          exact V_iret C rfl rfl dX9_count_75
        · rw [if_neg c4] at h
          by_cases c5 : l1 = 4
          · rw [if_pos c5] at h
            refine V_tableIn (off := 75) C 76 dX9_count_1 (by rw [c5]; decide) (by decide) ?_
            refine V_aload_n C 0 dX9_count_76 rfl rfl ?_
            refine fg9_33 (r := 13) C oX_0 rfl dX9_count_77 ?_
            refine fg9_134 C oX_13 dX9_count_80 ?_
            obtain rfl := Option.some.inj h
            exact V_iret C rfl rfl dX9_count_83
          · rw [if_neg c5] at h
            by_cases c6 : l1 = 5
            · rw [if_pos c6] at h
              refine V_tableIn (off := 83) C 84 dX9_count_1 (by rw [c6]; decide) (by decide) ?_
              refine V_aload_n C 0 dX9_count_84 rfl rfl ?_
              refine fg9_26 (r := 11) C oX_0 rfl dX9_count_85 ?_
              refine fg9_258 C oX_11 dX9_count_88 ?_
              obtain rfl := Option.some.inj h
              exact V_iret C rfl rfl dX9_count_91
            · rw [if_neg c6] at h
              by_cases c7 : l1 = 6
              · rw [if_pos c7] at h
                refine V_tableIn (off := 91) C 92 dX9_count_1 (by rw [c7]; decide) (by decide) ?_
                refine V_aload_n C 0 dX9_count_92 rfl rfl ?_
                refine fg9_10 (r := 1) C oX_0 rfl dX9_count_93 ?_
                refine fg9_138 C oX_1 dX9_count_96 ?_
                obtain rfl := Option.some.inj h
                exact V_iret C rfl rfl dX9_count_99
              · rw [if_neg c7] at h
                have nc1 := ti_ne c1 (show (0 : Int32).toInt = 0 by decide)
                have nc2 := ti_ne c2 (show (1 : Int32).toInt = 1 by decide)
                have nc3 := ti_ne c3 (show (2 : Int32).toInt = 2 by decide)
                have nc4 := ti_ne c4 (show (3 : Int32).toInt = 3 by decide)
                have nc5 := ti_ne c5 (show (4 : Int32).toInt = 4 by decide)
                have nc6 := ti_ne c6 (show (5 : Int32).toInt = 5 by decide)
                have nc7 := ti_ne c7 (show (6 : Int32).toInt = 6 by decide)
                refine V_tableOut C 100 dX9_count_1 (by omega) (by decide) ?_
                refine V_bipush C (w := (-2)) dX9_count_100 (by decide) ?_
                obtain rfl := Option.some.inj h
                exact V_iret C rfl rfl dX9_count_102
def X9_sheet_b27 (l2 : Int32) (l3 : Int32) (l4 : Nat) (σ : St) : Option (Int32 × St) := if l2 = (-1) then (if isO shX l4 6 3 then ((X6_become l4 (-1) 0 σ).bind (fun x36 => some (1, x36))) else none) else (if l3 ≤ 40 then (if 0 ≤ l3 then (if isO shX l4 6 3 then ((X6_become l4 l2 l3 σ).bind (fun x61 => some (1, x61))) else none) else (some ((-14), σ))) else (some ((-2), σ)))
set_option maxRecDepth 100000 in
set_option maxHeartbeats 4000000 in
theorem X9_sheet_b27_ok {G : Gx} {p : Program} {l : Launch} {e : Env} {d : Nat} {s : State} {m : MethodId} {args : Array Value} {below : List Frame} {meth : Method} {c : Code} {A : Nat → Prop} (C : OK shX G p s m args meth c RX9 cX9_sheet 5 (some FieldType.int) A) (hd : 3 ≤ d) {l2 : Int32} {l3 : Int32} {l4 : Nat} {σ : St} {x : (Int32 × St)} (h : X9_sheet_b27 l2 l3 l4 σ = some x) : Vw shX G p l e d s m args below meth c 5 A σ 27 [(2, .int l2), (3, .int l3), (4, .ref (G.2.1 l4))] [] (some (.int x.1)) x.2 := by
  unfold X9_sheet_b27 at h
  refine V_iload_n C 0 dX9_sheet_27 rfl rfl ?_
  refine V_iconst C (w := (-1)) dX9_sheet_28 (by decide) ?_
  by_cases c1 : l2 = (-1)
  · rw [if_pos c1] at h
    refine V_icmp_neF C 41 dX9_sheet_29 (by decide) c1 ?_
    refine V_aload C 2 dX9_sheet_32 rfl ?_
    refine V_iconst C (w := (-1)) dX9_sheet_34 (by decide) ?_
    refine V_iconst C (w := 0) dX9_sheet_35 (by decide) ?_
    have g5 : isO shX l4 6 3 := Decidable.byContradiction (fun g9 => by rw [if_neg g9] at h; cases h)
    rw [if_pos g5] at h
    obtain ⟨x36, h36, h⟩ := Option.bind_eq_some_iff.mp h
    refine V_callVv (As := [.int (-1), .int 0]) C (X6_become_ok h36) mw_X6_become.1 mw_X6_become.2.1 mw_X6_become.2.2 q9_236 g5.1 g5.2.1 (by decide) rfl rfl (by omega) rfl rfl rfl (Nat.le_of_ble_eq_true rfl) dX9_sheet_36 ?_
    refine V_iconst C (w := 1) dX9_sheet_39 (by decide) ?_
    obtain rfl := Option.some.inj h
    exact V_iret C rfl rfl dX9_sheet_40
  · rw [if_neg c1] at h
    refine V_icmp_neT C 41 dX9_sheet_29 (by decide) c1 ?_
    refine V_iload_n C 1 dX9_sheet_41 rfl rfl ?_
    refine V_bipush C (w := 40) dX9_sheet_42 (by decide) ?_
    by_cases c2 : l3 ≤ 40
    · rw [if_pos c2] at h
      refine V_icmp_leT C 50 dX9_sheet_44 (by decide) c2 ?_
      refine V_iload_n C 1 dX9_sheet_50 rfl rfl ?_
      by_cases c3 : 0 ≤ l3
      · rw [if_pos c3] at h
        refine V_if_geT C 57 dX9_sheet_51 (by decide) c3 ?_
        refine V_aload C 2 dX9_sheet_57 rfl ?_
        refine V_iload_n C 0 dX9_sheet_59 rfl rfl ?_
        refine V_iload_n C 1 dX9_sheet_60 rfl rfl ?_
        have g4 : isO shX l4 6 3 := Decidable.byContradiction (fun g9 => by rw [if_neg g9] at h; cases h)
        rw [if_pos g4] at h
        obtain ⟨x61, h61, h⟩ := Option.bind_eq_some_iff.mp h
        refine V_callVv (As := [.int l2, .int l3]) C (X6_become_ok h61) mw_X6_become.1 mw_X6_become.2.1 mw_X6_become.2.2 q9_236 g4.1 g4.2.1 (by decide) rfl rfl (by omega) rfl rfl rfl (Nat.le_of_ble_eq_true rfl) dX9_sheet_61 ?_
        refine V_iconst C (w := 1) dX9_sheet_64 (by decide) ?_
        obtain rfl := Option.some.inj h
        exact V_iret C rfl rfl dX9_sheet_65
      · rw [if_neg c3] at h
        refine V_if_geF C 57 dX9_sheet_51 (by decide) c3 ?_
        refine V_bipush C (w := (-14)) dX9_sheet_54 (by decide) ?_
        obtain rfl := Option.some.inj h
        exact V_iret C rfl rfl dX9_sheet_56
    · rw [if_neg c2] at h
      refine V_icmp_leF C 50 dX9_sheet_44 (by decide) c2 ?_
      refine V_bipush C (w := (-2)) dX9_sheet_47 (by decide) ?_
      obtain rfl := Option.some.inj h
      exact V_iret C rfl rfl dX9_sheet_49
def X9_sheet (l1 : Int32) (l2 : Int32) (l3 : Int32) (σ : St) : Option (Int32 × St) := (X9_sheetOf l1 σ).bind (fun x2 => Option.elim x2 (some ((-2), σ)) (fun t2 => if l2 = (-1) then (X9_sheet_b27 l2 l3 t2 σ) else ((X6_isSort l2).bind (fun x18 => if x18 = 0 then (some ((-2), σ)) else (X9_sheet_b27 l2 l3 t2 σ)))))
set_option maxRecDepth 100000 in
set_option maxHeartbeats 4000000 in
theorem X9_sheet_ok {l1 : Int32} {l2 : Int32} {l3 : Int32} {σ : St} {x : (Int32 × St)} (h : X9_sheet l1 l2 l3 σ = some x) : Ct shX (3) yX9_sheet cX9_sheet 5 (some FieldType.int) (fun G => [.ref (G.2.1 0), .int l1, .int l2, .int l3]) σ (fun G => some (.int x.1)) x.2 := by
  refine Ct.of mw_X9_sheet.1 (by decide +kernel) (fun G => Nat.le_of_ble_eq_true rfl) (fun G p l e d s m args below meth c A hd C => ?_)
  refine (?_ : Vw shX G p l e d s m args below meth c 5 A σ 0 [(0, .ref (G.2.1 0)), (1, .int l1), (2, .int l2), (3, .int l3)] [] (some (.int x.1)) x.2)
  unfold X9_sheet at h
  refine V_aload_n C 0 dX9_sheet_0 rfl rfl ?_
  refine V_iload_n C 1 dX9_sheet_1 rfl rfl ?_
  obtain ⟨x2, h2, h⟩ := Option.bind_eq_some_iff.mp h
  rcases x2 with _ | t2
  · dsimp only [Option.elim] at h
    refine V_callVn (As := [.int l1]) C (X9_sheetOf_ok h2) mw_X9_sheetOf.1 mw_X9_sheetOf.2.1 mw_X9_sheetOf.2.2 q9_141 oX_0.1 oX_0.2.1 (by decide) rfl rfl (by omega) rfl rfl rfl (Nat.le_of_ble_eq_true rfl) dX9_sheet_2 ?_
    refine V_astoreN C (lv' := [(4, .null), (0, .ref (G.2.1 0)), (1, .int l1), (2, .int l2), (3, .int l3)]) dX9_sheet_5 (by decide) rfl ?_
    refine V_aloadN C 0 dX9_sheet_7 rfl ?_
    refine V_ifnullT C 24 dX9_sheet_9 (by decide) ?_
    refine V_bipush C (w := (-2)) dX9_sheet_24 (by decide) ?_
    obtain rfl := Option.some.inj h
    exact V_iret C rfl rfl dX9_sheet_26
  · dsimp only [Option.elim] at h
    refine V_callVr (As := [.int l1]) C (X9_sheetOf_ok h2) mw_X9_sheetOf.1 mw_X9_sheetOf.2.1 mw_X9_sheetOf.2.2 q9_141 oX_0.1 oX_0.2.1 (by decide) rfl rfl (by omega) rfl rfl rfl (Nat.le_of_ble_eq_true rfl) dX9_sheet_2 ?_
    refine V_astore C (lv' := [(4, .ref (G.2.1 t2)), (0, .ref (G.2.1 0)), (1, .int l1), (2, .int l2), (3, .int l3)]) dX9_sheet_5 (by decide) rfl ?_
    refine V_aload C 0 dX9_sheet_7 rfl ?_
    refine V_ifnullF C dX9_sheet_9 ?_
    refine V_iload_n C 3 dX9_sheet_12 rfl rfl ?_
    refine V_iconst C (w := (-1)) dX9_sheet_13 (by decide) ?_
    by_cases c6 : l2 = (-1)
    · rw [if_pos c6] at h
      refine V_icmp_eqT C 27 dX9_sheet_14 (by decide) c6 ?_
      refine V_sub (lv' := [(2, .int l2), (3, .int l3), (4, .ref (G.2.1 t2))]) [3, 4, 0] rfl ?_
      exact X9_sheet_b27_ok C hd h
    · rw [if_neg c6] at h
      refine V_icmp_eqF C 27 dX9_sheet_14 (by decide) c6 ?_
      refine V_iload_n C 3 dX9_sheet_17 rfl rfl ?_
      obtain ⟨x18, h18, h⟩ := Option.bind_eq_some_iff.mp h
      refine V_callSi (As := [.int l2]) C (X6_isSort_ok h18) mw_X6_isSort.1 mw_X6_isSort.2 q9_259 (by omega) rfl rfl rfl (Nat.le_of_ble_eq_true rfl) dX9_sheet_18 ?_
      by_cases c7 : x18 = 0
      · rw [if_pos c7] at h
        refine V_if_neF C 27 dX9_sheet_21 (by decide) c7 ?_
        refine V_bipush C (w := (-2)) dX9_sheet_24 (by decide) ?_
        obtain rfl := Option.some.inj h
        exact V_iret C rfl rfl dX9_sheet_26
      · rw [if_neg c7] at h
        refine V_if_neT C 27 dX9_sheet_21 (by decide) c7 ?_
        refine V_sub (lv' := [(2, .int l2), (3, .int l3), (4, .ref (G.2.1 t2))]) [3, 4, 0] rfl ?_
        exact X9_sheet_b27_ok C hd h
def X9_cell (l1 : Int32) (l2 : Int32) (l3 : Int32) (σ : St) : Option (Int32 × St) := (X9_sheetOf l1 σ).bind (fun x2 => Option.elim x2 (some ((-2), σ)) (fun t2 => if isO shX t2 6 3 then ((X6_isMissing t2 σ).bind (fun x17 => if x17 = 0 then ((X6_spans t2 l2 1 σ).bind (fun x30 => if x30 = 0 then (some ((-12), σ)) else ((X6_put t2 l2 l3 σ).bind (fun x43 => some (1, x43))))) else (some ((-11), σ)))) else none))
set_option maxRecDepth 100000 in
set_option maxHeartbeats 4000000 in
theorem X9_cell_ok {l1 : Int32} {l2 : Int32} {l3 : Int32} {σ : St} {x : (Int32 × St)} (h : X9_cell l1 l2 l3 σ = some x) : Ct shX (2) yX9_cell cX9_cell 5 (some FieldType.int) (fun G => [.ref (G.2.1 0), .int l1, .int l2, .int l3]) σ (fun G => some (.int x.1)) x.2 := by
  refine Ct.of mw_X9_cell.1 (by decide +kernel) (fun G => Nat.le_of_ble_eq_true rfl) (fun G p l e d s m args below meth c A hd C => ?_)
  refine (?_ : Vw shX G p l e d s m args below meth c 5 A σ 0 [(0, .ref (G.2.1 0)), (1, .int l1), (2, .int l2), (3, .int l3)] [] (some (.int x.1)) x.2)
  unfold X9_cell at h
  refine V_aload_n C 0 dX9_cell_0 rfl rfl ?_
  refine V_iload_n C 1 dX9_cell_1 rfl rfl ?_
  obtain ⟨x2, h2, h⟩ := Option.bind_eq_some_iff.mp h
  rcases x2 with _ | t2
  · dsimp only [Option.elim] at h
    refine V_callVn (As := [.int l1]) C (X9_sheetOf_ok h2) mw_X9_sheetOf.1 mw_X9_sheetOf.2.1 mw_X9_sheetOf.2.2 q9_141 oX_0.1 oX_0.2.1 (by decide) rfl rfl (by omega) rfl rfl rfl (Nat.le_of_ble_eq_true rfl) dX9_cell_2 ?_
    refine V_astoreN C (lv' := [(4, .null), (0, .ref (G.2.1 0)), (1, .int l1), (2, .int l2), (3, .int l3)]) dX9_cell_5 (by decide) rfl ?_
    refine V_aloadN C 0 dX9_cell_7 rfl ?_
    refine V_ifnonnullF C dX9_cell_9 ?_
    refine V_bipush C (w := (-2)) dX9_cell_12 (by decide) ?_
    obtain rfl := Option.some.inj h
    exact V_iret C rfl rfl dX9_cell_14
  · dsimp only [Option.elim] at h
    refine V_callVr (As := [.int l1]) C (X9_sheetOf_ok h2) mw_X9_sheetOf.1 mw_X9_sheetOf.2.1 mw_X9_sheetOf.2.2 q9_141 oX_0.1 oX_0.2.1 (by decide) rfl rfl (by omega) rfl rfl rfl (Nat.le_of_ble_eq_true rfl) dX9_cell_2 ?_
    refine V_astore C (lv' := [(4, .ref (G.2.1 t2)), (0, .ref (G.2.1 0)), (1, .int l1), (2, .int l2), (3, .int l3)]) dX9_cell_5 (by decide) rfl ?_
    refine V_aload C 0 dX9_cell_7 rfl ?_
    refine V_ifnonnullT C 15 dX9_cell_9 (by decide) ?_
    refine V_aload C 0 dX9_cell_15 rfl ?_
    have g1 : isO shX t2 6 3 := Decidable.byContradiction (fun g9 => by rw [if_neg g9] at h; cases h)
    rw [if_pos g1] at h
    obtain ⟨x17, h17, h⟩ := Option.bind_eq_some_iff.mp h
    refine V_callVi (As := []) C (X6_isMissing_ok h17) mw_X6_isMissing.1 mw_X6_isMissing.2.1 mw_X6_isMissing.2.2 q9_145 g1.1 g1.2.1 (by decide) rfl rfl (by omega) rfl rfl rfl (Nat.le_of_ble_eq_true rfl) dX9_cell_17 ?_
    by_cases c2 : x17 = 0
    · rw [if_pos c2] at h
      refine V_if_eqT C 26 dX9_cell_20 (by decide) c2 ?_
      refine V_aload C 0 dX9_cell_26 rfl ?_
      refine V_iload_n C 3 dX9_cell_28 rfl rfl ?_
      refine V_iconst C (w := 1) dX9_cell_29 (by decide) ?_
      obtain ⟨x30, h30, h⟩ := Option.bind_eq_some_iff.mp h
      refine V_callVi (As := [.int l2, .int 1]) C (X6_spans_ok h30) mw_X6_spans.1 mw_X6_spans.2.1 mw_X6_spans.2.2 q9_262 g1.1 g1.2.1 (by decide) rfl rfl (by omega) rfl rfl rfl (Nat.le_of_ble_eq_true rfl) dX9_cell_30 ?_
      by_cases c3 : x30 = 0
      · rw [if_pos c3] at h
        refine V_if_neF C 39 dX9_cell_33 (by decide) c3 ?_
        refine V_bipush C (w := (-12)) dX9_cell_36 (by decide) ?_
        obtain rfl := Option.some.inj h
        exact V_iret C rfl rfl dX9_cell_38
      · rw [if_neg c3] at h
        refine V_if_neT C 39 dX9_cell_33 (by decide) c3 ?_
        refine V_aload C 0 dX9_cell_39 rfl ?_
        refine V_iload_n C 3 dX9_cell_41 rfl rfl ?_
        refine V_iload_n C 4 dX9_cell_42 rfl rfl ?_
        obtain ⟨x43, h43, h⟩ := Option.bind_eq_some_iff.mp h
        refine V_callVv (As := [.int l2, .int l3]) C (X6_put_ok h43) mw_X6_put.1 mw_X6_put.2.1 mw_X6_put.2.2 q9_240 g1.1 g1.2.1 (by decide) rfl rfl (by omega) rfl rfl rfl (Nat.le_of_ble_eq_true rfl) dX9_cell_43 ?_
        refine V_iconst C (w := 1) dX9_cell_46 (by decide) ?_
        obtain rfl := Option.some.inj h
        exact V_iret C rfl rfl dX9_cell_47
    · rw [if_neg c2] at h
      refine V_if_eqF C 26 dX9_cell_20 (by decide) c2 ?_
      refine V_bipush C (w := (-11)) dX9_cell_23 (by decide) ?_
      obtain rfl := Option.some.inj h
      exact V_iret C rfl rfl dX9_cell_25
def X9_copy (l1 : Int32) (l2 : Int32) (l3 : Int32) (l4 : Int32) (l5 : Int32) (σ : St) : Option (Int32 × St) := (X9_sheetOf l1 σ).bind (fun x2 => Option.elim x2 ((X9_sheetOf l3 σ).bind (fun x9 => Option.elim x9 (some ((-2), σ)) (fun t9 => some ((-2), σ)))) (fun t2 => (X9_sheetOf l3 σ).bind (fun x9 => Option.elim x9 (some ((-2), σ)) (fun t9 => if isO shX t2 6 3 then ((X6_isMissing t2 σ).bind (fun x29 => if x29 = 0 then (if isO shX t9 6 3 then ((X6_isMissing t9 σ).bind (fun x37 => if x37 = 0 then (if (σ.1 t2 1) = (σ.1 t9 1) then ((X6_spans t2 l2 l5 σ).bind (fun x67 => if x67 = 0 then (some ((-12), σ)) else ((X6_spans t9 l4 l5 σ).bind (fun x79 => if x79 = 0 then (some ((-12), σ)) else (if isA shX (rfX t2 0) 20 then (if isA shX (rfX t9 0) 20 then (if acOk l2 l4 l5 (lnX (rfX t2 0)) (lnX (rfX t9 0)) then (some (l5, (upA σ (rfX t9 0) (va_cpy (σ.1 (rfX t2 0)) (σ.1 (rfX t9 0)) (l2 : Int32).toNatClampNeg (l4 : Int32).toNatClampNeg (l5 : Int32).toNatClampNeg)))) else none) else none) else none))))) else (some ((-13), σ))) else (some ((-11), σ)))) else none) else (some ((-11), σ)))) else none))))
set_option maxRecDepth 100000 in
set_option maxHeartbeats 4000000 in
theorem X9_copy_ok {l1 : Int32} {l2 : Int32} {l3 : Int32} {l4 : Int32} {l5 : Int32} {σ : St} {x : (Int32 × St)} (h : X9_copy l1 l2 l3 l4 l5 σ = some x) : Ct shX (2) yX9_copy cX9_copy 8 (some FieldType.int) (fun G => [.ref (G.2.1 0), .int l1, .int l2, .int l3, .int l4, .int l5]) σ (fun G => some (.int x.1)) x.2 := by
  refine Ct.of mw_X9_copy.1 (by decide +kernel) (fun G => Nat.le_of_ble_eq_true rfl) (fun G p l e d s m args below meth c A hd C => ?_)
  refine (?_ : Vw shX G p l e d s m args below meth c 8 A σ 0 [(0, .ref (G.2.1 0)), (1, .int l1), (2, .int l2), (3, .int l3), (4, .int l4), (5, .int l5)] [] (some (.int x.1)) x.2)
  unfold X9_copy at h
  refine V_aload_n C 0 dX9_copy_0 rfl rfl ?_
  refine V_iload_n C 1 dX9_copy_1 rfl rfl ?_
  obtain ⟨x2, h2, h⟩ := Option.bind_eq_some_iff.mp h
  rcases x2 with _ | t2
  · dsimp only [Option.elim] at h
    refine V_callVn (As := [.int l1]) C (X9_sheetOf_ok h2) mw_X9_sheetOf.1 mw_X9_sheetOf.2.1 mw_X9_sheetOf.2.2 q9_141 oX_0.1 oX_0.2.1 (by decide) rfl rfl (by omega) rfl rfl rfl (Nat.le_of_ble_eq_true rfl) dX9_copy_2 ?_
    refine V_astoreN C (lv' := [(6, .null), (0, .ref (G.2.1 0)), (1, .int l1), (2, .int l2), (3, .int l3), (4, .int l4), (5, .int l5)]) dX9_copy_5 (by decide) rfl ?_
    refine V_aload_n C 1 dX9_copy_7 rfl rfl ?_
    refine V_iload_n C 4 dX9_copy_8 rfl rfl ?_
    obtain ⟨x9, h9, h⟩ := Option.bind_eq_some_iff.mp h
    rcases x9 with _ | t9
    · dsimp only [Option.elim] at h
      refine V_callVn (As := [.int l3]) C (X9_sheetOf_ok h9) mw_X9_sheetOf.1 mw_X9_sheetOf.2.1 mw_X9_sheetOf.2.2 q9_141 oX_0.1 oX_0.2.1 (by decide) rfl rfl (by omega) rfl rfl rfl (Nat.le_of_ble_eq_true rfl) dX9_copy_9 ?_
      refine V_astoreN C (lv' := [(7, .null), (6, .null), (0, .ref (G.2.1 0)), (1, .int l1), (2, .int l2), (3, .int l3), (4, .int l4), (5, .int l5)]) dX9_copy_12 (by decide) rfl ?_
      refine V_aloadN C 1 dX9_copy_14 rfl ?_
      refine V_ifnullT C 24 dX9_copy_16 (by decide) ?_
      refine V_bipush C (w := (-2)) dX9_copy_24 (by decide) ?_
      obtain rfl := Option.some.inj h
      exact V_iret C rfl rfl dX9_copy_26
    · dsimp only [Option.elim] at h
      refine V_callVr (As := [.int l3]) C (X9_sheetOf_ok h9) mw_X9_sheetOf.1 mw_X9_sheetOf.2.1 mw_X9_sheetOf.2.2 q9_141 oX_0.1 oX_0.2.1 (by decide) rfl rfl (by omega) rfl rfl rfl (Nat.le_of_ble_eq_true rfl) dX9_copy_9 ?_
      refine V_astore C (lv' := [(7, .ref (G.2.1 t9)), (6, .null), (0, .ref (G.2.1 0)), (1, .int l1), (2, .int l2), (3, .int l3), (4, .int l4), (5, .int l5)]) dX9_copy_12 (by decide) rfl ?_
      refine V_aloadN C 1 dX9_copy_14 rfl ?_
      refine V_ifnullT C 24 dX9_copy_16 (by decide) ?_
      refine V_bipush C (w := (-2)) dX9_copy_24 (by decide) ?_
      obtain rfl := Option.some.inj h
      exact V_iret C rfl rfl dX9_copy_26
  · dsimp only [Option.elim] at h
    refine V_callVr (As := [.int l1]) C (X9_sheetOf_ok h2) mw_X9_sheetOf.1 mw_X9_sheetOf.2.1 mw_X9_sheetOf.2.2 q9_141 oX_0.1 oX_0.2.1 (by decide) rfl rfl (by omega) rfl rfl rfl (Nat.le_of_ble_eq_true rfl) dX9_copy_2 ?_
    refine V_astore C (lv' := [(6, .ref (G.2.1 t2)), (0, .ref (G.2.1 0)), (1, .int l1), (2, .int l2), (3, .int l3), (4, .int l4), (5, .int l5)]) dX9_copy_5 (by decide) rfl ?_
    refine V_aload_n C 1 dX9_copy_7 rfl rfl ?_
    refine V_iload_n C 4 dX9_copy_8 rfl rfl ?_
    obtain ⟨x9, h9, h⟩ := Option.bind_eq_some_iff.mp h
    rcases x9 with _ | t9
    · dsimp only [Option.elim] at h
      refine V_callVn (As := [.int l3]) C (X9_sheetOf_ok h9) mw_X9_sheetOf.1 mw_X9_sheetOf.2.1 mw_X9_sheetOf.2.2 q9_141 oX_0.1 oX_0.2.1 (by decide) rfl rfl (by omega) rfl rfl rfl (Nat.le_of_ble_eq_true rfl) dX9_copy_9 ?_
      refine V_astoreN C (lv' := [(7, .null), (6, .ref (G.2.1 t2)), (0, .ref (G.2.1 0)), (1, .int l1), (2, .int l2), (3, .int l3), (4, .int l4), (5, .int l5)]) dX9_copy_12 (by decide) rfl ?_
      refine V_aload C 1 dX9_copy_14 rfl ?_
      refine V_ifnullF C dX9_copy_16 ?_
      refine V_aloadN C 0 dX9_copy_19 rfl ?_
      refine V_ifnonnullF C dX9_copy_21 ?_
      refine V_bipush C (w := (-2)) dX9_copy_24 (by decide) ?_
      obtain rfl := Option.some.inj h
      exact V_iret C rfl rfl dX9_copy_26
    · dsimp only [Option.elim] at h
      refine V_callVr (As := [.int l3]) C (X9_sheetOf_ok h9) mw_X9_sheetOf.1 mw_X9_sheetOf.2.1 mw_X9_sheetOf.2.2 q9_141 oX_0.1 oX_0.2.1 (by decide) rfl rfl (by omega) rfl rfl rfl (Nat.le_of_ble_eq_true rfl) dX9_copy_9 ?_
      refine V_astore C (lv' := [(7, .ref (G.2.1 t9)), (6, .ref (G.2.1 t2)), (0, .ref (G.2.1 0)), (1, .int l1), (2, .int l2), (3, .int l3), (4, .int l4), (5, .int l5)]) dX9_copy_12 (by decide) rfl ?_
      refine V_aload C 1 dX9_copy_14 rfl ?_
      refine V_ifnullF C dX9_copy_16 ?_
      refine V_aload C 0 dX9_copy_19 rfl ?_
      refine V_ifnonnullT C 27 dX9_copy_21 (by decide) ?_
      refine V_aload C 1 dX9_copy_27 rfl ?_
      have g1 : isO shX t2 6 3 := Decidable.byContradiction (fun g9 => by rw [if_neg g9] at h; cases h)
      rw [if_pos g1] at h
      obtain ⟨x29, h29, h⟩ := Option.bind_eq_some_iff.mp h
      refine V_callVi (As := []) C (X6_isMissing_ok h29) mw_X6_isMissing.1 mw_X6_isMissing.2.1 mw_X6_isMissing.2.2 q9_145 g1.1 g1.2.1 (by decide) rfl rfl (by omega) rfl rfl rfl (Nat.le_of_ble_eq_true rfl) dX9_copy_29 ?_
      by_cases c2 : x29 = 0
      · rw [if_pos c2] at h
        refine V_if_neF C 43 dX9_copy_32 (by decide) c2 ?_
        refine V_aload C 0 dX9_copy_35 rfl ?_
        have g3 : isO shX t9 6 3 := Decidable.byContradiction (fun g9 => by rw [if_neg g9] at h; cases h)
        rw [if_pos g3] at h
        obtain ⟨x37, h37, h⟩ := Option.bind_eq_some_iff.mp h
        refine V_callVi (As := []) C (X6_isMissing_ok h37) mw_X6_isMissing.1 mw_X6_isMissing.2.1 mw_X6_isMissing.2.2 q9_145 g3.1 g3.2.1 (by decide) rfl rfl (by omega) rfl rfl rfl (Nat.le_of_ble_eq_true rfl) dX9_copy_37 ?_
        by_cases c4 : x37 = 0
        · rw [if_pos c4] at h
          refine V_if_eqT C 46 dX9_copy_40 (by decide) c4 ?_
          refine V_aload C 1 dX9_copy_46 rfl ?_
          refine fg9_265 C g1 dX9_copy_48 ?_
          refine V_aload C 0 dX9_copy_51 rfl ?_
          refine fg9_265 C g3 dX9_copy_53 ?_
          by_cases c5 : (σ.1 t2 1) = (σ.1 t9 1)
          · rw [if_pos c5] at h
            refine V_icmp_eqT C 62 dX9_copy_56 (by decide) c5 ?_
            refine V_aload C 1 dX9_copy_62 rfl ?_
            refine V_iload_n C 4 dX9_copy_64 rfl rfl ?_
            refine V_iload C 7 dX9_copy_65 rfl ?_
            obtain ⟨x67, h67, h⟩ := Option.bind_eq_some_iff.mp h
            refine V_callVi (As := [.int l2, .int l5]) C (X6_spans_ok h67) mw_X6_spans.1 mw_X6_spans.2.1 mw_X6_spans.2.2 q9_262 g1.1 g1.2.1 (by decide) rfl rfl (by omega) rfl rfl rfl (Nat.le_of_ble_eq_true rfl) dX9_copy_67 ?_
            by_cases c6 : x67 = 0
            · rw [if_pos c6] at h
              refine V_if_eqT C 85 dX9_copy_70 (by decide) c6 ?_
              refine V_bipush C (w := (-12)) dX9_copy_85 (by decide) ?_
              obtain rfl := Option.some.inj h
              exact V_iret C rfl rfl dX9_copy_87
            · rw [if_neg c6] at h
              refine V_if_eqF C 85 dX9_copy_70 (by decide) c6 ?_
              refine V_aload C 0 dX9_copy_73 rfl ?_
              refine V_iload C 6 dX9_copy_75 rfl ?_
              refine V_iload C 7 dX9_copy_77 rfl ?_
              obtain ⟨x79, h79, h⟩ := Option.bind_eq_some_iff.mp h
              refine V_callVi (As := [.int l4, .int l5]) C (X6_spans_ok h79) mw_X6_spans.1 mw_X6_spans.2.1 mw_X6_spans.2.2 q9_262 g3.1 g3.2.1 (by decide) rfl rfl (by omega) rfl rfl rfl (Nat.le_of_ble_eq_true rfl) dX9_copy_79 ?_
              by_cases c7 : x79 = 0
              · rw [if_pos c7] at h
                refine V_if_neF C 88 dX9_copy_82 (by decide) c7 ?_
                refine V_bipush C (w := (-12)) dX9_copy_85 (by decide) ?_
                obtain rfl := Option.some.inj h
                exact V_iret C rfl rfl dX9_copy_87
              · rw [if_neg c7] at h
                refine V_if_neT C 88 dX9_copy_82 (by decide) c7 ?_
                refine V_aload C 1 dX9_copy_88 rfl ?_
                refine fg9_268 (r := (rfX t2 0)) C g1 rfl dX9_copy_90 ?_
                refine V_iload_n C 4 dX9_copy_93 rfl rfl ?_
                refine V_aload C 0 dX9_copy_94 rfl ?_
                refine fg9_268 (r := (rfX t9 0)) C g3 rfl dX9_copy_96 ?_
                refine V_iload C 6 dX9_copy_99 rfl ?_
                refine V_iload C 7 dX9_copy_101 rfl ?_
                have g8 : isA shX (rfX t2 0) 20 := Decidable.byContradiction (fun g9 => by rw [if_neg g9] at h; cases h)
                rw [if_pos g8] at h
                have g9 : isA shX (rfX t9 0) 20 := Decidable.byContradiction (fun g9 => by rw [if_neg g9] at h; cases h)
                rw [if_pos g9] at h
                have g10 : acOk l2 l4 l5 (lnX (rfX t2 0)) (lnX (rfX t9 0)) := Decidable.byContradiction (fun g9 => by rw [if_neg g9] at h; cases h)
                rw [if_pos g10] at h
                refine V_copyI C g8.1 g9.1 g8.2 g9.2 q9_271 g10.1 g10.2.1 g10.2.2.1 (by exact g10.2.2.2.1) (by exact g10.2.2.2.2) (by omega) (Nat.le_of_ble_eq_true rfl) dX9_copy_103 ?_
                refine V_iload C 7 dX9_copy_106 rfl ?_
                obtain rfl := Option.some.inj h
                exact V_iret C rfl rfl dX9_copy_108
          · rw [if_neg c5] at h
            refine V_icmp_eqF C 62 dX9_copy_56 (by decide) c5 ?_
            refine V_bipush C (w := (-13)) dX9_copy_59 (by decide) ?_
            obtain rfl := Option.some.inj h
            exact V_iret C rfl rfl dX9_copy_61
        · rw [if_neg c4] at h
          refine V_if_eqF C 46 dX9_copy_40 (by decide) c4 ?_
          refine V_bipush C (w := (-11)) dX9_copy_43 (by decide) ?_
          obtain rfl := Option.some.inj h
          exact V_iret C rfl rfl dX9_copy_45
      · rw [if_neg c2] at h
        refine V_if_neT C 43 dX9_copy_32 (by decide) c2 ?_
        refine V_bipush C (w := (-11)) dX9_copy_43 (by decide) ?_
        obtain rfl := Option.some.inj h
        exact V_iret C rfl rfl dX9_copy_45
def X9_guests_b62 : Nat → Int32 → Int32 → Nat → Int32 → Int32 → St → Option (Int32 × St)
  | 0, _, _, _, _, _, _ => none
  | F + 1, l3, l4, l5, l6, l7, σ => if l4 ≤ l7 then (some (l6, σ)) else (if isO shX l5 6 3 then ((X6_spans l5 (l3 + (3 * l7)) 3 σ).bind (fun x82 => if x82 = 0 then (some ((-12), σ)) else ((X6_item l5 (l3 + (3 * l7)) σ).bind (fun x96 => (X6_item l5 ((l3 + (3 * l7)) + 1) σ).bind (fun x105 => (X6_item l5 ((l3 + (3 * l7)) + 2) σ).bind (fun x114 => (X9_guest x96 x105 x114 σ).bind (fun x117 => if x117.1 < 0 then (X9_guests_b62 F l3 l4 l5 l6 (l7 + 1) x117.2) else (X9_guests_b62 F l3 l4 l5 (l6 + 1) (l7 + 1) x117.2)))))))) else none)
set_option maxRecDepth 100000 in
set_option maxHeartbeats 4000000 in
theorem X9_guests_b62_ok {G : Gx} {p : Program} {l : Launch} {e : Env} {d : Nat} {s : State} {m : MethodId} {args : Array Value} {below : List Frame} {meth : Method} {c : Code} {A : Nat → Prop} (C : OK shX G p s m args meth c RX9 cX9_guests 9 (some FieldType.int) A) (hd : 3 ≤ d) : ∀ (F : Nat) {l3 : Int32} {l4 : Int32} {l5 : Nat} {l6 : Int32} {l7 : Int32} {σ : St} {x : (Int32 × St)} (h : X9_guests_b62 F l3 l4 l5 l6 l7 σ = some x), Vw shX G p l e d s m args below meth c 9 A σ 62 [(0, .ref (G.2.1 0)), (3, .int l3), (4, .int l4), (5, .ref (G.2.1 l5)), (6, .int l6), (7, .int l7)] [] (some (.int x.1)) x.2 := by
  intro F
  induction F with
  | zero =>
    intro l3 l4 l5 l6 l7 σ x h
    rw [X9_guests_b62] at h
    cases h
  | succ F ih =>
    intro l3 l4 l5 l6 l7 σ x h
    rw [X9_guests_b62] at h
    refine V_iload C 5 dX9_guests_62 rfl ?_
    refine V_iload C 2 dX9_guests_64 rfl ?_
    by_cases c1 : l4 ≤ l7
    · rw [if_pos c1] at h
      refine V_icmp_geT C 132 dX9_guests_66 (by decide) c1 ?_
      refine V_iload C 4 dX9_guests_132 rfl ?_
      obtain rfl := Option.some.inj h
      exact V_iret C rfl rfl dX9_guests_134
    · rw [if_neg c1] at h
      refine V_icmp_geF C 132 dX9_guests_66 (by decide) c1 ?_
      refine V_iload_n C 1 dX9_guests_69 rfl rfl ?_
      refine V_iconst C (w := 3) dX9_guests_70 (by decide) ?_
      refine V_iload C 5 dX9_guests_71 rfl ?_
      refine V_imul C dX9_guests_73 ?_
      refine V_iadd C dX9_guests_74 ?_
      refine V_istore C (lv' := [(8, .int (l3 + (3 * l7))), (0, .ref (G.2.1 0)), (3, .int l3), (4, .int l4), (5, .ref (G.2.1 l5)), (6, .int l6), (7, .int l7)]) dX9_guests_75 (by decide) rfl ?_
      refine V_aload C 4 dX9_guests_77 rfl ?_
      refine V_iload C 0 dX9_guests_79 rfl ?_
      refine V_iconst C (w := 3) dX9_guests_81 (by decide) ?_
      have g2 : isO shX l5 6 3 := Decidable.byContradiction (fun g9 => by rw [if_neg g9] at h; cases h)
      rw [if_pos g2] at h
      obtain ⟨x82, h82, h⟩ := Option.bind_eq_some_iff.mp h
      refine V_callVi (As := [.int (l3 + (3 * l7)), .int 3]) C (X6_spans_ok h82) mw_X6_spans.1 mw_X6_spans.2.1 mw_X6_spans.2.2 q9_262 g2.1 g2.2.1 (by decide) rfl rfl (by omega) rfl rfl rfl (Nat.le_of_ble_eq_true rfl) dX9_guests_82 ?_
      by_cases c3 : x82 = 0
      · rw [if_pos c3] at h
        refine V_if_neF C 91 dX9_guests_85 (by decide) c3 ?_
        refine V_bipush C (w := (-12)) dX9_guests_88 (by decide) ?_
        obtain rfl := Option.some.inj h
        exact V_iret C rfl rfl dX9_guests_90
      · rw [if_neg c3] at h
        refine V_if_neT C 91 dX9_guests_85 (by decide) c3 ?_
        refine V_aload_n C 1 dX9_guests_91 rfl rfl ?_
        refine V_aload C 4 dX9_guests_92 rfl ?_
        refine V_iload C 0 dX9_guests_94 rfl ?_
        obtain ⟨x96, h96, h⟩ := Option.bind_eq_some_iff.mp h
        refine V_callVi (As := [.int (l3 + (3 * l7))]) C (X6_item_ok h96) mw_X6_item.1 mw_X6_item.2.1 mw_X6_item.2.2 q9_277 g2.1 g2.2.1 (by decide) rfl rfl (by omega) rfl rfl rfl (Nat.le_of_ble_eq_true rfl) dX9_guests_96 ?_
        refine V_aload C 4 dX9_guests_99 rfl ?_
        refine V_iload C 0 dX9_guests_101 rfl ?_
        refine V_iconst C (w := 1) dX9_guests_103 (by decide) ?_
        refine V_iadd C dX9_guests_104 ?_
        obtain ⟨x105, h105, h⟩ := Option.bind_eq_some_iff.mp h
        refine V_callVi (As := [.int ((l3 + (3 * l7)) + 1)]) C (X6_item_ok h105) mw_X6_item.1 mw_X6_item.2.1 mw_X6_item.2.2 q9_277 g2.1 g2.2.1 (by decide) rfl rfl (by omega) rfl rfl rfl (Nat.le_of_ble_eq_true rfl) dX9_guests_105 ?_
        refine V_aload C 4 dX9_guests_108 rfl ?_
        refine V_iload C 0 dX9_guests_110 rfl ?_
        refine V_iconst C (w := 2) dX9_guests_112 (by decide) ?_
        refine V_iadd C dX9_guests_113 ?_
        obtain ⟨x114, h114, h⟩ := Option.bind_eq_some_iff.mp h
        refine V_callVi (As := [.int ((l3 + (3 * l7)) + 2)]) C (X6_item_ok h114) mw_X6_item.1 mw_X6_item.2.1 mw_X6_item.2.2 q9_277 g2.1 g2.2.1 (by decide) rfl rfl (by omega) rfl rfl rfl (Nat.le_of_ble_eq_true rfl) dX9_guests_114 ?_
        obtain ⟨x117, h117, h⟩ := Option.bind_eq_some_iff.mp h
        refine V_callVi (As := [.int x96, .int x105, .int x114]) C (X9_guest_ok h117) mw_X9_guest.1 mw_X9_guest.2.1 mw_X9_guest.2.2 q9_280 oX_0.1 oX_0.2.1 (by decide) rfl rfl (by omega) rfl rfl rfl (Nat.le_of_ble_eq_true rfl) dX9_guests_117 ?_
        by_cases c4 : x117.1 < 0
        · rw [if_pos c4] at h
          refine V_if_ltT C 126 dX9_guests_120 (by decide) c4 ?_
          refine V_iinc C (w := (l7 + 1)) (lv' := [(7, .int (l7 + 1)), (8, .int (l3 + (3 * l7))), (0, .ref (G.2.1 0)), (3, .int l3), (4, .int l4), (5, .ref (G.2.1 l5)), (6, .int l6)]) 6 dX9_guests_126 rfl (congrArg (l7 + ·) (show Int32.ofInt 1 = 1 by decide)) (by decide) rfl ?_
          refine V_goto C 62 dX9_guests_129 (by decide) ?_
          refine V_sub (lv' := [(0, .ref (G.2.1 0)), (3, .int l3), (4, .int l4), (5, .ref (G.2.1 l5)), (6, .int l6), (7, .int (l7 + 1))]) [2, 3, 4, 5, 6, 0] rfl ?_
          exact ih h
        · rw [if_neg c4] at h
          refine V_if_ltF C 126 dX9_guests_120 (by decide) c4 ?_
          refine V_iinc C (w := (l6 + 1)) (lv' := [(6, .int (l6 + 1)), (8, .int (l3 + (3 * l7))), (0, .ref (G.2.1 0)), (3, .int l3), (4, .int l4), (5, .ref (G.2.1 l5)), (7, .int l7)]) 5 dX9_guests_123 rfl (congrArg (l6 + ·) (show Int32.ofInt 1 = 1 by decide)) (by decide) rfl ?_
          refine V_iinc C (w := (l7 + 1)) (lv' := [(7, .int (l7 + 1)), (6, .int (l6 + 1)), (8, .int (l3 + (3 * l7))), (0, .ref (G.2.1 0)), (3, .int l3), (4, .int l4), (5, .ref (G.2.1 l5))]) 6 dX9_guests_126 rfl (congrArg (l7 + ·) (show Int32.ofInt 1 = 1 by decide)) (by decide) rfl ?_
          refine V_goto C 62 dX9_guests_129 (by decide) ?_
          refine V_sub (lv' := [(0, .ref (G.2.1 0)), (3, .int l3), (4, .int l4), (5, .ref (G.2.1 l5)), (6, .int (l6 + 1)), (7, .int (l7 + 1))]) [3, 4, 5, 6, 1, 0] rfl ?_
          exact ih h
def X9_guests (l1 : Int32) (l2 : Int32) (l3 : Int32) (l4 : Int32) (σ : St) : Option (Int32 × St) := (X9_sheetOf l1 σ).bind (fun x2 => Option.elim x2 (some ((-2), σ)) (fun t2 => (X6_isSort l2).bind (fun x13 => if x13 = 0 then (some ((-2), σ)) else (if l4 < 0 then (some ((-2), σ)) else (if l4 ≤ 5 then (if isO shX t2 6 3 then ((X6_isMissing t2 σ).bind (fun x35 => if x35 = 0 then (if (σ.1 t2 1) = l2 then (X9_guests_b62 FU l3 l4 t2 0 0 σ) else (some ((-13), σ))) else (some ((-11), σ)))) else none) else (some ((-2), σ)))))))
set_option maxRecDepth 100000 in
set_option maxHeartbeats 4000000 in
theorem X9_guests_ok {l1 : Int32} {l2 : Int32} {l3 : Int32} {l4 : Int32} {σ : St} {x : (Int32 × St)} (h : X9_guests l1 l2 l3 l4 σ = some x) : Ct shX (3) yX9_guests cX9_guests 9 (some FieldType.int) (fun G => [.ref (G.2.1 0), .int l1, .int l2, .int l3, .int l4]) σ (fun G => some (.int x.1)) x.2 := by
  refine Ct.of mw_X9_guests.1 (by decide +kernel) (fun G => Nat.le_of_ble_eq_true rfl) (fun G p l e d s m args below meth c A hd C => ?_)
  refine (?_ : Vw shX G p l e d s m args below meth c 9 A σ 0 [(0, .ref (G.2.1 0)), (1, .int l1), (2, .int l2), (3, .int l3), (4, .int l4)] [] (some (.int x.1)) x.2)
  unfold X9_guests at h
  refine V_aload_n C 0 dX9_guests_0 rfl rfl ?_
  refine V_iload_n C 1 dX9_guests_1 rfl rfl ?_
  obtain ⟨x2, h2, h⟩ := Option.bind_eq_some_iff.mp h
  rcases x2 with _ | t2
  · dsimp only [Option.elim] at h
    refine V_callVn (As := [.int l1]) C (X9_sheetOf_ok h2) mw_X9_sheetOf.1 mw_X9_sheetOf.2.1 mw_X9_sheetOf.2.2 q9_141 oX_0.1 oX_0.2.1 (by decide) rfl rfl (by omega) rfl rfl rfl (Nat.le_of_ble_eq_true rfl) dX9_guests_2 ?_
    refine V_astoreN C (lv' := [(5, .null), (0, .ref (G.2.1 0)), (1, .int l1), (2, .int l2), (3, .int l3), (4, .int l4)]) dX9_guests_5 (by decide) rfl ?_
    refine V_aloadN C 0 dX9_guests_7 rfl ?_
    refine V_ifnullT C 30 dX9_guests_9 (by decide) ?_
    refine V_bipush C (w := (-2)) dX9_guests_30 (by decide) ?_
    obtain rfl := Option.some.inj h
    exact V_iret C rfl rfl dX9_guests_32
  · dsimp only [Option.elim] at h
    refine V_callVr (As := [.int l1]) C (X9_sheetOf_ok h2) mw_X9_sheetOf.1 mw_X9_sheetOf.2.1 mw_X9_sheetOf.2.2 q9_141 oX_0.1 oX_0.2.1 (by decide) rfl rfl (by omega) rfl rfl rfl (Nat.le_of_ble_eq_true rfl) dX9_guests_2 ?_
    refine V_astore C (lv' := [(5, .ref (G.2.1 t2)), (0, .ref (G.2.1 0)), (1, .int l1), (2, .int l2), (3, .int l3), (4, .int l4)]) dX9_guests_5 (by decide) rfl ?_
    refine V_aload C 0 dX9_guests_7 rfl ?_
    refine V_ifnullF C dX9_guests_9 ?_
    refine V_iload_n C 3 dX9_guests_12 rfl rfl ?_
    obtain ⟨x13, h13, h⟩ := Option.bind_eq_some_iff.mp h
    refine V_callSi (As := [.int l2]) C (X6_isSort_ok h13) mw_X6_isSort.1 mw_X6_isSort.2 q9_259 (by omega) rfl rfl rfl (Nat.le_of_ble_eq_true rfl) dX9_guests_13 ?_
    by_cases c5 : x13 = 0
    · rw [if_pos c5] at h
      refine V_if_eqT C 30 dX9_guests_16 (by decide) c5 ?_
      refine V_bipush C (w := (-2)) dX9_guests_30 (by decide) ?_
      obtain rfl := Option.some.inj h
      exact V_iret C rfl rfl dX9_guests_32
    · rw [if_neg c5] at h
      refine V_if_eqF C 30 dX9_guests_16 (by decide) c5 ?_
      refine V_iload C 5 dX9_guests_19 rfl ?_
      by_cases c6 : l4 < 0
      · rw [if_pos c6] at h
        refine V_if_ltT C 30 dX9_guests_21 (by decide) c6 ?_
        refine V_bipush C (w := (-2)) dX9_guests_30 (by decide) ?_
        obtain rfl := Option.some.inj h
        exact V_iret C rfl rfl dX9_guests_32
      · rw [if_neg c6] at h
        refine V_if_ltF C 30 dX9_guests_21 (by decide) c6 ?_
        refine V_iload C 5 dX9_guests_24 rfl ?_
        refine V_iconst C (w := 5) dX9_guests_26 (by decide) ?_
        by_cases c7 : l4 ≤ 5
        · rw [if_pos c7] at h
          refine V_icmp_leT C 33 dX9_guests_27 (by decide) c7 ?_
          refine V_aload C 0 dX9_guests_33 rfl ?_
          have g8 : isO shX t2 6 3 := Decidable.byContradiction (fun g9 => by rw [if_neg g9] at h; cases h)
          rw [if_pos g8] at h
          obtain ⟨x35, h35, h⟩ := Option.bind_eq_some_iff.mp h
          refine V_callVi (As := []) C (X6_isMissing_ok h35) mw_X6_isMissing.1 mw_X6_isMissing.2.1 mw_X6_isMissing.2.2 q9_145 g8.1 g8.2.1 (by decide) rfl rfl (by omega) rfl rfl rfl (Nat.le_of_ble_eq_true rfl) dX9_guests_35 ?_
          by_cases c9 : x35 = 0
          · rw [if_pos c9] at h
            refine V_if_eqT C 44 dX9_guests_38 (by decide) c9 ?_
            refine V_aload C 0 dX9_guests_44 rfl ?_
            refine fg9_265 C g8 dX9_guests_46 ?_
            refine V_iload_n C 3 dX9_guests_49 rfl rfl ?_
            by_cases c10 : (σ.1 t2 1) = l2
            · rw [if_pos c10] at h
              refine V_icmp_eqT C 56 dX9_guests_50 (by decide) c10 ?_
              refine V_iconst C (w := 0) dX9_guests_56 (by decide) ?_
              refine V_istore C (lv' := [(6, .int 0), (5, .ref (G.2.1 t2)), (0, .ref (G.2.1 0)), (1, .int l1), (2, .int l2), (3, .int l3), (4, .int l4)]) dX9_guests_57 (by decide) rfl ?_
              refine V_iconst C (w := 0) dX9_guests_59 (by decide) ?_
              refine V_istore C (lv' := [(7, .int 0), (6, .int 0), (5, .ref (G.2.1 t2)), (0, .ref (G.2.1 0)), (1, .int l1), (2, .int l2), (3, .int l3), (4, .int l4)]) dX9_guests_60 (by decide) rfl ?_
              refine V_sub (lv' := [(0, .ref (G.2.1 0)), (3, .int l3), (4, .int l4), (5, .ref (G.2.1 t2)), (6, .int 0), (7, .int 0)]) [3, 6, 7, 2, 1, 0] rfl ?_
              exact X9_guests_b62_ok C hd FU h
            · rw [if_neg c10] at h
              refine V_icmp_eqF C 56 dX9_guests_50 (by decide) c10 ?_
              refine V_bipush C (w := (-13)) dX9_guests_53 (by decide) ?_
              obtain rfl := Option.some.inj h
              exact V_iret C rfl rfl dX9_guests_55
          · rw [if_neg c9] at h
            refine V_if_eqF C 44 dX9_guests_38 (by decide) c9 ?_
            refine V_bipush C (w := (-11)) dX9_guests_41 (by decide) ?_
            obtain rfl := Option.some.inj h
            exact V_iret C rfl rfl dX9_guests_43
        · rw [if_neg c7] at h
          refine V_icmp_leF C 33 dX9_guests_27 (by decide) c7 ?_
          refine V_bipush C (w := (-2)) dX9_guests_30 (by decide) ?_
          obtain rfl := Option.some.inj h
          exact V_iret C rfl rfl dX9_guests_32
def X9_isUnder_b43 (l1 : Int32) (l2 : Int32) : Option Int32 := if l2 = l1 then (some 1) else (some 0)
set_option maxRecDepth 100000 in
set_option maxHeartbeats 4000000 in
theorem X9_isUnder_b43_ok {G : Gx} {p : Program} {l : Launch} {e : Env} {d : Nat} {s : State} {m : MethodId} {args : Array Value} {below : List Frame} {meth : Method} {c : Code} {A : Nat → Prop} (C : OK shX G p s m args meth c RX9 cX9_isUnder 4 (some FieldType.boolean) A) (hd : 1 ≤ d) {l1 : Int32} {l2 : Int32} {σ : St} {x : Int32} (h : X9_isUnder_b43 l1 l2 = some x) : Vw shX G p l e d s m args below meth c 4 A σ 43 [(1, .int l1), (2, .int l2)] [] (some (.int x)) σ := by
  unfold X9_isUnder_b43 at h
  refine V_iload_n C 1 dX9_isUnder_43 rfl rfl ?_
  refine V_iload_n C 0 dX9_isUnder_44 rfl rfl ?_
  by_cases c1 : l2 = l1
  · rw [if_pos c1] at h
    refine V_icmp_neF C 52 dX9_isUnder_45 (by decide) c1 ?_
    refine V_iconst C (w := 1) dX9_isUnder_48 (by decide) ?_
    refine V_goto C 53 dX9_isUnder_49 (by decide) ?_
    obtain rfl := Option.some.inj h
    exact V_iret C rfl (nz (Or.inr rfl)) dX9_isUnder_53
  · rw [if_neg c1] at h
    refine V_icmp_neT C 52 dX9_isUnder_45 (by decide) c1 ?_
    refine V_iconst C (w := 0) dX9_isUnder_52 (by decide) ?_
    obtain rfl := Option.some.inj h
    exact V_iret C rfl (nz (Or.inl rfl)) dX9_isUnder_53
def X9_isUnder_b4 : Nat → Int32 → Int32 → Int32 → Option Int32
  | 0, _, _, _ => none
  | F + 1, l1, l2, l3 => if 6 ≤ l3 then (X9_isUnder_b43 l1 l2) else (if l2 = l1 then (X9_isUnder_b43 l1 l2) else (if l2 < 0 then (some 0) else (if l2 < 6 then (if ob l2 6 then none else (X9_isUnder_b4 F l1 (stv 2 l2) (l3 + 1))) else (some 0))))
set_option maxRecDepth 100000 in
set_option maxHeartbeats 4000000 in
theorem X9_isUnder_b4_ok {G : Gx} {p : Program} {l : Launch} {e : Env} {d : Nat} {s : State} {m : MethodId} {args : Array Value} {below : List Frame} {meth : Method} {c : Code} {A : Nat → Prop} (C : OK shX G p s m args meth c RX9 cX9_isUnder 4 (some FieldType.boolean) A) (hd : 1 ≤ d) : ∀ (F : Nat) {l1 : Int32} {l2 : Int32} {l3 : Int32} {σ : St} {x : Int32} (h : X9_isUnder_b4 F l1 l2 l3 = some x), Vw shX G p l e d s m args below meth c 4 A σ 4 [(1, .int l1), (2, .int l2), (3, .int l3)] [] (some (.int x)) σ := by
  intro F
  induction F with
  | zero =>
    intro l1 l2 l3 σ x h
    rw [X9_isUnder_b4] at h
    cases h
  | succ F ih =>
    intro l1 l2 l3 σ x h
    rw [X9_isUnder_b4] at h
    refine V_iload_n C 2 dX9_isUnder_4 rfl rfl ?_
    refine V_gets (i := 2) C (by decide) qf9_289 dX9_isUnder_5 ?_
    refine V_slen (i := 2) C (by decide) (w := 6) rfl dX9_isUnder_8 ?_
    by_cases c2 : 6 ≤ l3
    · rw [if_pos c2] at h
      refine V_icmp_geT C 43 dX9_isUnder_9 (by decide) c2 ?_
      refine V_sub (lv' := [(1, .int l1), (2, .int l2)]) [0, 1] rfl ?_
      exact X9_isUnder_b43_ok C hd h
    · rw [if_neg c2] at h
      refine V_icmp_geF C 43 dX9_isUnder_9 (by decide) c2 ?_
      refine V_iload_n C 1 dX9_isUnder_12 rfl rfl ?_
      refine V_iload_n C 0 dX9_isUnder_13 rfl rfl ?_
      by_cases c3 : l2 = l1
      · rw [if_pos c3] at h
        refine V_icmp_eqT C 43 dX9_isUnder_14 (by decide) c3 ?_
        refine V_sub (lv' := [(1, .int l1), (2, .int l2)]) [0, 1] rfl ?_
        exact X9_isUnder_b43_ok C hd h
      · rw [if_neg c3] at h
        refine V_icmp_eqF C 43 dX9_isUnder_14 (by decide) c3 ?_
        refine V_iload_n C 1 dX9_isUnder_17 rfl rfl ?_
        by_cases c4 : l2 < 0
        · rw [if_pos c4] at h
          refine V_if_ltT C 29 dX9_isUnder_18 (by decide) c4 ?_
          refine V_iconst C (w := 0) dX9_isUnder_29 (by decide) ?_
          obtain rfl := Option.some.inj h
          exact V_iret C rfl (nz (Or.inl rfl)) dX9_isUnder_30
        · rw [if_neg c4] at h
          refine V_if_ltF C 29 dX9_isUnder_18 (by decide) c4 ?_
          refine V_iload_n C 1 dX9_isUnder_21 rfl rfl ?_
          refine V_gets (i := 2) C (by decide) qf9_289 dX9_isUnder_22 ?_
          refine V_slen (i := 2) C (by decide) (w := 6) rfl dX9_isUnder_25 ?_
          by_cases c5 : l2 < 6
          · rw [if_pos c5] at h
            refine V_icmp_ltT C 31 dX9_isUnder_26 (by decide) c5 ?_
            refine V_gets (i := 2) C (by decide) qf9_289 dX9_isUnder_31 ?_
            refine V_iload_n C 1 dX9_isUnder_34 rfl rfl ?_
            have g6 : ¬ (ob l2 6) := fun g9 => by rw [if_pos g9] at h; cases h
            rw [if_neg g6] at h
            refine V_sldO (i := 2) C (by decide) rfl g6 dX9_isUnder_35 ?_
            refine V_istore_n C (lv' := [(2, .int (stv 2 l2)), (1, .int l1), (3, .int l3)]) dX9_isUnder_36 rfl (by decide) rfl ?_
            refine V_iinc C (w := (l3 + 1)) (lv' := [(3, .int (l3 + 1)), (2, .int (stv 2 l2)), (1, .int l1)]) 2 dX9_isUnder_37 rfl (congrArg (l3 + ·) (show Int32.ofInt 1 = 1 by decide)) (by decide) rfl ?_
            refine V_goto C 4 dX9_isUnder_40 (by decide) ?_
            refine V_sub (lv' := [(1, .int l1), (2, .int (stv 2 l2)), (3, .int (l3 + 1))]) [2, 1, 0] rfl ?_
            exact ih h
          · rw [if_neg c5] at h
            refine V_icmp_ltF C 31 dX9_isUnder_26 (by decide) c5 ?_
            refine V_iconst C (w := 0) dX9_isUnder_29 (by decide) ?_
            obtain rfl := Option.some.inj h
            exact V_iret C rfl (nz (Or.inl rfl)) dX9_isUnder_30
def X9_isUnder (l0 : Int32) (l1 : Int32) : Option Int32 := X9_isUnder_b4 FU l1 l0 0
set_option maxRecDepth 100000 in
set_option maxHeartbeats 4000000 in
theorem X9_isUnder_ok {l0 : Int32} {l1 : Int32} {σ : St} {x : Int32} (h : X9_isUnder l0 l1 = some x) : Ct shX (1) yX9_isUnder cX9_isUnder 4 (some FieldType.boolean) (fun G => [.int l0, .int l1]) σ (fun G => some (.int x)) σ := by
  refine Ct.of mw_X9_isUnder.1 (by decide +kernel) (fun G => Nat.le_of_ble_eq_true rfl) (fun G p l e d s m args below meth c A hd C => ?_)
  refine (?_ : Vw shX G p l e d s m args below meth c 4 A σ 0 [(0, .int l0), (1, .int l1)] [] (some (.int x)) σ)
  unfold X9_isUnder at h
  refine V_iload_n C 0 dX9_isUnder_0 rfl rfl ?_
  refine V_istore_n C (lv' := [(2, .int l0), (0, .int l0), (1, .int l1)]) dX9_isUnder_1 rfl (by decide) rfl ?_
  refine V_iconst C (w := 0) dX9_isUnder_2 (by decide) ?_
  refine V_istore_n C (lv' := [(3, .int 0), (2, .int l0), (0, .int l0), (1, .int l1)]) dX9_isUnder_3 rfl (by decide) rfl ?_
  refine V_sub (lv' := [(1, .int l1), (2, .int l0), (3, .int 0)]) [3, 1, 0] rfl ?_
  exact X9_isUnder_b4_ok C hd FU h
def X9_taken (l1 : Int32) (l2 : Int32) (σ : St) : Option Int32 := (X9_mayBe 6 l2).bind (fun x3 => if x3 = 0 then (some (-2)) else ((X5_has 1 l1 σ).bind (fun x17 => if x17 = 0 then (some (-11)) else ((X5_value 1 6 l1 σ).bind (fun x33 => (X9_isUnder x33 l2).bind (fun x37 => if x37 = 0 then (some (-13)) else ((X5_value 1 3 l1 σ).bind (fun x49 => some x49))))))))
set_option maxRecDepth 100000 in
set_option maxHeartbeats 4000000 in
theorem X9_taken_ok {l1 : Int32} {l2 : Int32} {σ : St} {x : Int32} (h : X9_taken l1 l2 σ = some x) : Ct shX (3) yX9_taken cX9_taken 3 (some FieldType.int) (fun G => [.ref (G.2.1 0), .int l1, .int l2]) σ (fun G => some (.int x)) σ := by
  refine Ct.of mw_X9_taken.1 (by decide +kernel) (fun G => Nat.le_of_ble_eq_true rfl) (fun G p l e d s m args below meth c A hd C => ?_)
  refine (?_ : Vw shX G p l e d s m args below meth c 3 A σ 0 [(0, .ref (G.2.1 0)), (1, .int l1), (2, .int l2)] [] (some (.int x)) σ)
  unfold X9_taken at h
  refine V_bipush C (w := 6) dX9_taken_0 (by decide) ?_
  refine V_iload_n C 2 dX9_taken_2 rfl rfl ?_
  obtain ⟨x3, h3, h⟩ := Option.bind_eq_some_iff.mp h
  refine V_callSi (As := [.int 6, .int l2]) C (X9_mayBe_ok h3) mw_X9_mayBe.1 mw_X9_mayBe.2 q9_97 (by omega) rfl rfl rfl (Nat.le_of_ble_eq_true rfl) dX9_taken_3 ?_
  by_cases c1 : x3 = 0
  · rw [if_pos c1] at h
    refine V_if_neF C 12 dX9_taken_6 (by decide) c1 ?_
    refine V_bipush C (w := (-2)) dX9_taken_9 (by decide) ?_
    obtain rfl := Option.some.inj h
    exact V_iret C rfl rfl dX9_taken_11
  · rw [if_neg c1] at h
    refine V_if_neT C 12 dX9_taken_6 (by decide) c1 ?_
    refine V_aload_n C 0 dX9_taken_12 rfl rfl ?_
    refine fg9_10 (r := 1) C oX_0 rfl dX9_taken_13 ?_
    refine V_iload_n C 1 dX9_taken_16 rfl rfl ?_
    obtain ⟨x17, h17, h⟩ := Option.bind_eq_some_iff.mp h
    refine V_callVi (As := [.int l1]) C (X5_has_ok h17) mw_X5_has.1 mw_X5_has.2.1 mw_X5_has.2.2 q9_101 oX_1.1 oX_1.2.1 (by decide) rfl rfl (by omega) rfl rfl rfl (Nat.le_of_ble_eq_true rfl) dX9_taken_17 ?_
    by_cases c2 : x17 = 0
    · rw [if_pos c2] at h
      refine V_if_neF C 26 dX9_taken_20 (by decide) c2 ?_
      refine V_bipush C (w := (-11)) dX9_taken_23 (by decide) ?_
      obtain rfl := Option.some.inj h
      exact V_iret C rfl rfl dX9_taken_25
    · rw [if_neg c2] at h
      refine V_if_neT C 26 dX9_taken_20 (by decide) c2 ?_
      refine V_aload_n C 0 dX9_taken_26 rfl rfl ?_
      refine fg9_10 (r := 1) C oX_0 rfl dX9_taken_27 ?_
      refine V_bipush C (w := 6) dX9_taken_30 (by decide) ?_
      refine V_iload_n C 1 dX9_taken_32 rfl rfl ?_
      obtain ⟨x33, h33, h⟩ := Option.bind_eq_some_iff.mp h
      refine V_callVi (As := [.int 6, .int l1]) C (X5_value_ok h33) mw_X5_value.1 mw_X5_value.2.1 mw_X5_value.2.2 q9_105 oX_1.1 oX_1.2.1 (by decide) rfl rfl (by omega) rfl rfl rfl (Nat.le_of_ble_eq_true rfl) dX9_taken_33 ?_
      refine V_iload_n C 2 dX9_taken_36 rfl rfl ?_
      obtain ⟨x37, h37, h⟩ := Option.bind_eq_some_iff.mp h
      refine V_callSi (As := [.int x33, .int l2]) C (X9_isUnder_ok h37) mw_X9_isUnder.1 mw_X9_isUnder.2 q9_283 (by omega) rfl rfl rfl (Nat.le_of_ble_eq_true rfl) dX9_taken_37 ?_
      by_cases c3 : x37 = 0
      · rw [if_pos c3] at h
        refine V_if_eqT C 55 dX9_taken_40 (by decide) c3 ?_
        refine V_bipush C (w := (-13)) dX9_taken_55 (by decide) ?_
        obtain rfl := Option.some.inj h
        exact V_iret C rfl rfl dX9_taken_57
      · rw [if_neg c3] at h
        refine V_if_eqF C 55 dX9_taken_40 (by decide) c3 ?_
        refine V_aload_n C 0 dX9_taken_43 rfl rfl ?_
        refine fg9_10 (r := 1) C oX_0 rfl dX9_taken_44 ?_
        refine V_iconst C (w := 3) dX9_taken_47 (by decide) ?_
        refine V_iload_n C 1 dX9_taken_48 rfl rfl ?_
        obtain ⟨x49, h49, h⟩ := Option.bind_eq_some_iff.mp h
        refine V_callVi (As := [.int 3, .int l1]) C (X5_value_ok h49) mw_X5_value.1 mw_X5_value.2.1 mw_X5_value.2.2 q9_105 oX_1.1 oX_1.2.1 (by decide) rfl rfl (by omega) rfl rfl rfl (Nat.le_of_ble_eq_true rfl) dX9_taken_49 ?_
        refine V_goto C 57 dX9_taken_52 (by decide) ?_
        obtain rfl := Option.some.inj h
        exact V_iret C rfl rfl dX9_taken_57
