def X7_isWord_b20 : Nat → Nat → Int32 → St → Option Int32
  | 0, _, _, _ => none
  | F + 1, l1, l2, σ => (sLen l1).bind (fun x22 => if x22 ≤ l2 then (some 1) else (if ((σ.1 11 3) + l2) < 0 then (some 0) else (if 160 ≤ ((σ.1 11 3) + l2) then (some 0) else (if ob ((σ.1 11 3) + l2) 160 then none else ((sCh l1 l2).bind (fun x56 => if (σ.1 12 (((σ.1 11 3) + l2)).toNatClampNeg) = x56 then (X7_isWord_b20 F l1 (l2 + 1) σ) else (some 0)))))))
set_option maxRecDepth 100000 in
set_option maxHeartbeats 4000000 in
theorem X7_isWord_b20_ok {G : Gx} {p : Program} {l : Launch} {e : Env} {d : Nat} {s : State} {m : MethodId} {args : Array Value} {below : List Frame} {meth : Method} {c : Code} {A : Nat → Prop} (C : OK shX G p s m args meth c RX7 cX7_isWord 4 (some FieldType.boolean) A) (hd : 7 ≤ d) : ∀ (F : Nat) {l1 : Nat} {l2 : Int32} {σ : St} {x : Int32} (h : X7_isWord_b20 F l1 l2 σ = some x), Vw shX G p l e d s m args below meth c 4 A σ 20 [(0, .ref (G.2.1 11)), (1, .ref (G.2.2.2.2.1 l1)), (2, .int l2)] [] (some (.int x)) σ := by
  intro F
  induction F with
  | zero =>
    intro l1 l2 σ x h
    rw [X7_isWord_b20] at h
    cases h
  | succ F ih =>
    intro l1 l2 σ x h
    rw [X7_isWord_b20] at h
    refine V_iload_n C 2 dX7_isWord_20 rfl rfl ?_
    refine V_aload_n C 1 dX7_isWord_21 rfl rfl ?_
    obtain ⟨x22, h22, h⟩ := Option.bind_eq_some_iff.mp h
    refine V_sLen C h22 q7_83 (by omega) (Nat.le_of_ble_eq_true rfl) dX7_isWord_22 ?_
    by_cases c1 : x22 ≤ l2
    · rw [if_pos c1] at h
      refine V_icmp_geT C 70 dX7_isWord_25 (by decide) c1 ?_
      refine V_iconst C (w := 1) dX7_isWord_70 (by decide) ?_
      obtain rfl := Option.some.inj h
      exact V_iret C rfl (nz (Or.inr rfl)) dX7_isWord_71
    · rw [if_neg c1] at h
      refine V_icmp_geF C 70 dX7_isWord_25 (by decide) c1 ?_
      refine V_aload_n C 0 dX7_isWord_28 rfl rfl ?_
      refine fg7_22 C oX_11 dX7_isWord_29 ?_
      refine V_iload_n C 2 dX7_isWord_32 rfl rfl ?_
      refine V_iadd C dX7_isWord_33 ?_
      refine V_istore_n C (lv' := [(3, .int ((σ.1 11 3) + l2)), (0, .ref (G.2.1 11)), (1, .ref (G.2.2.2.2.1 l1)), (2, .int l2)]) dX7_isWord_34 rfl (by decide) rfl ?_
      refine V_iload_n C 0 dX7_isWord_35 rfl rfl ?_
      by_cases c2 : ((σ.1 11 3) + l2) < 0
      · rw [if_pos c2] at h
        refine V_if_ltT C 62 dX7_isWord_36 (by decide) c2 ?_
        refine V_iconst C (w := 0) dX7_isWord_62 (by decide) ?_
        obtain rfl := Option.some.inj h
        exact V_iret C rfl (nz (Or.inl rfl)) dX7_isWord_63
      · rw [if_neg c2] at h
        refine V_if_ltF C 62 dX7_isWord_36 (by decide) c2 ?_
        refine V_iload_n C 0 dX7_isWord_39 rfl rfl ?_
        refine V_aload_n C 1 dX7_isWord_40 rfl rfl ?_
        refine fg7_9 (r := 12) C oX_11 rfl dX7_isWord_41 ?_
        refine V_alenI C oX_12.1 oX_12.2.1 (w := 160) rfl dX7_isWord_44 ?_
        by_cases c3 : 160 ≤ ((σ.1 11 3) + l2)
        · rw [if_pos c3] at h
          refine V_icmp_geT C 62 dX7_isWord_45 (by decide) c3 ?_
          refine V_iconst C (w := 0) dX7_isWord_62 (by decide) ?_
          obtain rfl := Option.some.inj h
          exact V_iret C rfl (nz (Or.inl rfl)) dX7_isWord_63
        · rw [if_neg c3] at h
          refine V_icmp_geF C 62 dX7_isWord_45 (by decide) c3 ?_
          refine V_aload_n C 1 dX7_isWord_48 rfl rfl ?_
          refine fg7_9 (r := 12) C oX_11 rfl dX7_isWord_49 ?_
          refine V_iload_n C 0 dX7_isWord_52 rfl rfl ?_
          have g4 : ¬ (ob ((σ.1 11 3) + l2) 160) := fun g9 => by rw [if_pos g9] at h; cases h
          rw [if_neg g4] at h
          refine V_ialdO C oX_12 g4 dX7_isWord_53 ?_
          refine V_aload_n C 2 dX7_isWord_54 rfl rfl ?_
          refine V_iload_n C 3 dX7_isWord_55 rfl rfl ?_
          obtain ⟨x56, h56, h⟩ := Option.bind_eq_some_iff.mp h
          refine V_sCh C h56 q7_88 (by omega) (Nat.le_of_ble_eq_true rfl) dX7_isWord_56 ?_
          by_cases c5 : (σ.1 12 (((σ.1 11 3) + l2)).toNatClampNeg) = x56
          · rw [if_pos c5] at h
            refine V_icmp_eqT C 64 dX7_isWord_59 (by decide) c5 ?_
            refine V_iinc C (w := (l2 + 1)) (lv' := [(2, .int (l2 + 1)), (3, .int ((σ.1 11 3) + l2)), (0, .ref (G.2.1 11)), (1, .ref (G.2.2.2.2.1 l1))]) 3 dX7_isWord_64 rfl (congrArg (l2 + ·) (show Int32.ofInt 1 = 1 by decide)) (by decide) rfl ?_
            refine V_goto C 20 dX7_isWord_67 (by decide) ?_
            refine V_sub (lv' := [(0, .ref (G.2.1 11)), (1, .ref (G.2.2.2.2.1 l1)), (2, .int (l2 + 1))]) [2, 3, 0] rfl ?_
            exact ih h
          · rw [if_neg c5] at h
            refine V_icmp_eqF C 64 dX7_isWord_59 (by decide) c5 ?_
            refine V_iconst C (w := 0) dX7_isWord_62 (by decide) ?_
            obtain rfl := Option.some.inj h
            exact V_iret C rfl (nz (Or.inl rfl)) dX7_isWord_63
def X7_isWord (l1 : Nat) (σ : St) : Option Int32 := (sLen l1).bind (fun x10 => if ((σ.1 11 4) - (σ.1 11 3)) = x10 then (X7_isWord_b20 FU l1 0 σ) else (some 0))
set_option maxRecDepth 100000 in
set_option maxHeartbeats 4000000 in
theorem X7_isWord_ok {l1 : Nat} {σ : St} {x : Int32} (h : X7_isWord l1 σ = some x) : Ct shX (7) yX7_isWord cX7_isWord 4 (some FieldType.boolean) (fun G => [.ref (G.2.1 11), .ref (G.2.2.2.2.1 l1)]) σ (fun G => some (.int x)) σ := by
  refine Ct.of mw_X7_isWord.1 (by decide +kernel) (fun G => Nat.le_of_ble_eq_true rfl) (fun G p l e d s m args below meth c A hd C => ?_)
  refine (?_ : Vw shX G p l e d s m args below meth c 4 A σ 0 [(0, .ref (G.2.1 11)), (1, .ref (G.2.2.2.2.1 l1))] [] (some (.int x)) σ)
  unfold X7_isWord at h
  refine V_aload_n C 0 dX7_isWord_0 rfl rfl ?_
  refine fg7_25 C oX_11 dX7_isWord_1 ?_
  refine V_aload_n C 0 dX7_isWord_4 rfl rfl ?_
  refine fg7_22 C oX_11 dX7_isWord_5 ?_
  refine V_isub C dX7_isWord_8 ?_
  refine V_aload_n C 1 dX7_isWord_9 rfl rfl ?_
  obtain ⟨x10, h10, h⟩ := Option.bind_eq_some_iff.mp h
  refine V_sLen C h10 q7_83 (by omega) (Nat.le_of_ble_eq_true rfl) dX7_isWord_10 ?_
  by_cases c6 : ((σ.1 11 4) - (σ.1 11 3)) = x10
  · rw [if_pos c6] at h
    refine V_icmp_eqT C 18 dX7_isWord_13 (by decide) c6 ?_
    refine V_iconst C (w := 0) dX7_isWord_18 (by decide) ?_
    refine V_istore_n C (lv' := [(2, .int 0), (0, .ref (G.2.1 11)), (1, .ref (G.2.2.2.2.1 l1))]) dX7_isWord_19 rfl (by decide) rfl ?_
    refine V_sub (lv' := [(0, .ref (G.2.1 11)), (1, .ref (G.2.2.2.2.1 l1)), (2, .int 0)]) [1, 2, 0] rfl ?_
    exact X7_isWord_b20_ok C hd FU h
  · rw [if_neg c6] at h
    refine V_icmp_eqF C 18 dX7_isWord_13 (by decide) c6 ?_
    refine V_iconst C (w := 0) dX7_isWord_16 (by decide) ?_
    obtain rfl := Option.some.inj h
    exact V_iret C rfl (nz (Or.inl rfl)) dX7_isWord_17
def X7_wordFromHere_b38 (σ : St) : Option (Int32 × St) := (X7_isWord 1 σ).bind (fun x41 => if x41 = 0 then ((X7_isWord 2 σ).bind (fun x54 => if x54 = 0 then ((X7_isWord 3 σ).bind (fun x68 => if x68 = 0 then ((X7_isWord 4 σ).bind (fun x82 => if x82 = 0 then ((X7_isWord 5 σ).bind (fun x96 => if x96 = 0 then ((X7_isWord 6 σ).bind (fun x110 => if x110 = 0 then ((X7_isWord 7 σ).bind (fun x124 => if x124 = 0 then ((X7_isWord 8 σ).bind (fun x138 => if x138 = 0 then ((X7_isWord 9 σ).bind (fun x152 => if x152 = 0 then ((X7_isWord 10 σ).bind (fun x166 => if x166 = 0 then ((X7_isWord 11 σ).bind (fun x180 => if x180 = 0 then ((X7_isWord 12 σ).bind (fun x194 => if x194 = 0 then (some ((-23), σ)) else (some ((-9), σ)))) else (some ((-8), σ)))) else (some ((-7), σ)))) else (some ((-18), σ)))) else (some ((-17), σ)))) else (some ((-16), σ)))) else (some ((-6), σ)))) else (some ((-5), σ)))) else (some ((-4), σ)))) else (some ((-3), σ)))) else (some ((-2), σ)))) else (some ((-1), σ)))
set_option maxRecDepth 100000 in
set_option maxHeartbeats 4000000 in
theorem X7_wordFromHere_b38_ok {G : Gx} {p : Program} {l : Launch} {e : Env} {d : Nat} {s : State} {m : MethodId} {args : Array Value} {below : List Frame} {meth : Method} {c : Code} {A : Nat → Prop} (C : OK shX G p s m args meth c RX7 cX7_wordFromHere 1 (some FieldType.int) A) (hd : 8 ≤ d) {σ : St} {x : (Int32 × St)} (h : X7_wordFromHere_b38 σ = some x) : Vw shX G p l e d s m args below meth c 1 A σ 38 [(0, .ref (G.2.1 11))] [] (some (.int x.1)) x.2 := by
  unfold X7_wordFromHere_b38 at h
  refine V_aload_n C 0 dX7_wordFromHere_38 rfl rfl ?_
  refine V_ldcS (i := 1) C (by decide) rfl rfl dX7_wordFromHere_39 ?_
  obtain ⟨x41, h41, h⟩ := Option.bind_eq_some_iff.mp h
  refine V_callVi (As := [.ref (G.2.2.2.2.1 1)]) C (X7_isWord_ok h41) mw_X7_isWord.1 mw_X7_isWord.2.1 mw_X7_isWord.2.2 q7_57 oX_11.1 oX_11.2.1 (by decide) rfl rfl (by omega) rfl rfl rfl (Nat.le_of_ble_eq_true rfl) dX7_wordFromHere_41 ?_
  by_cases c1 : x41 = 0
  · rw [if_pos c1] at h
    refine V_if_eqT C 51 dX7_wordFromHere_44 (by decide) c1 ?_
    refine V_aload_n C 0 dX7_wordFromHere_51 rfl rfl ?_
    refine V_ldcS (i := 2) C (by decide) rfl rfl dX7_wordFromHere_52 ?_
    obtain ⟨x54, h54, h⟩ := Option.bind_eq_some_iff.mp h
    refine V_callVi (As := [.ref (G.2.2.2.2.1 2)]) C (X7_isWord_ok h54) mw_X7_isWord.1 mw_X7_isWord.2.1 mw_X7_isWord.2.2 q7_57 oX_11.1 oX_11.2.1 (by decide) rfl rfl (by omega) rfl rfl rfl (Nat.le_of_ble_eq_true rfl) dX7_wordFromHere_54 ?_
    by_cases c2 : x54 = 0
    · rw [if_pos c2] at h
      refine V_if_eqT C 65 dX7_wordFromHere_57 (by decide) c2 ?_
      refine V_aload_n C 0 dX7_wordFromHere_65 rfl rfl ?_
      refine V_ldcS (i := 3) C (by decide) rfl rfl dX7_wordFromHere_66 ?_
      obtain ⟨x68, h68, h⟩ := Option.bind_eq_some_iff.mp h
      refine V_callVi (As := [.ref (G.2.2.2.2.1 3)]) C (X7_isWord_ok h68) mw_X7_isWord.1 mw_X7_isWord.2.1 mw_X7_isWord.2.2 q7_57 oX_11.1 oX_11.2.1 (by decide) rfl rfl (by omega) rfl rfl rfl (Nat.le_of_ble_eq_true rfl) dX7_wordFromHere_68 ?_
      by_cases c3 : x68 = 0
      · rw [if_pos c3] at h
        refine V_if_eqT C 79 dX7_wordFromHere_71 (by decide) c3 ?_
        refine V_aload_n C 0 dX7_wordFromHere_79 rfl rfl ?_
        refine V_ldcS (i := 4) C (by decide) rfl rfl dX7_wordFromHere_80 ?_
        obtain ⟨x82, h82, h⟩ := Option.bind_eq_some_iff.mp h
        refine V_callVi (As := [.ref (G.2.2.2.2.1 4)]) C (X7_isWord_ok h82) mw_X7_isWord.1 mw_X7_isWord.2.1 mw_X7_isWord.2.2 q7_57 oX_11.1 oX_11.2.1 (by decide) rfl rfl (by omega) rfl rfl rfl (Nat.le_of_ble_eq_true rfl) dX7_wordFromHere_82 ?_
        by_cases c4 : x82 = 0
        · rw [if_pos c4] at h
          refine V_if_eqT C 93 dX7_wordFromHere_85 (by decide) c4 ?_
          refine V_aload_n C 0 dX7_wordFromHere_93 rfl rfl ?_
          refine V_ldcS (i := 5) C (by decide) rfl rfl dX7_wordFromHere_94 ?_
          obtain ⟨x96, h96, h⟩ := Option.bind_eq_some_iff.mp h
          refine V_callVi (As := [.ref (G.2.2.2.2.1 5)]) C (X7_isWord_ok h96) mw_X7_isWord.1 mw_X7_isWord.2.1 mw_X7_isWord.2.2 q7_57 oX_11.1 oX_11.2.1 (by decide) rfl rfl (by omega) rfl rfl rfl (Nat.le_of_ble_eq_true rfl) dX7_wordFromHere_96 ?_
          by_cases c5 : x96 = 0
          · rw [if_pos c5] at h
            refine V_if_eqT C 107 dX7_wordFromHere_99 (by decide) c5 ?_
            refine V_aload_n C 0 dX7_wordFromHere_107 rfl rfl ?_
            refine V_ldcS (i := 6) C (by decide) rfl rfl dX7_wordFromHere_108 ?_
            obtain ⟨x110, h110, h⟩ := Option.bind_eq_some_iff.mp h
            refine V_callVi (As := [.ref (G.2.2.2.2.1 6)]) C (X7_isWord_ok h110) mw_X7_isWord.1 mw_X7_isWord.2.1 mw_X7_isWord.2.2 q7_57 oX_11.1 oX_11.2.1 (by decide) rfl rfl (by omega) rfl rfl rfl (Nat.le_of_ble_eq_true rfl) dX7_wordFromHere_110 ?_
            by_cases c6 : x110 = 0
            · rw [if_pos c6] at h
              refine V_if_eqT C 121 dX7_wordFromHere_113 (by decide) c6 ?_
              refine V_aload_n C 0 dX7_wordFromHere_121 rfl rfl ?_
              refine V_ldcS (i := 7) C (by decide) rfl rfl dX7_wordFromHere_122 ?_
              obtain ⟨x124, h124, h⟩ := Option.bind_eq_some_iff.mp h
              refine V_callVi (As := [.ref (G.2.2.2.2.1 7)]) C (X7_isWord_ok h124) mw_X7_isWord.1 mw_X7_isWord.2.1 mw_X7_isWord.2.2 q7_57 oX_11.1 oX_11.2.1 (by decide) rfl rfl (by omega) rfl rfl rfl (Nat.le_of_ble_eq_true rfl) dX7_wordFromHere_124 ?_
              by_cases c7 : x124 = 0
              · rw [if_pos c7] at h
                refine V_if_eqT C 135 dX7_wordFromHere_127 (by decide) c7 ?_
                refine V_aload_n C 0 dX7_wordFromHere_135 rfl rfl ?_
                refine V_ldcS (i := 8) C (by decide) rfl rfl dX7_wordFromHere_136 ?_
                obtain ⟨x138, h138, h⟩ := Option.bind_eq_some_iff.mp h
                refine V_callVi (As := [.ref (G.2.2.2.2.1 8)]) C (X7_isWord_ok h138) mw_X7_isWord.1 mw_X7_isWord.2.1 mw_X7_isWord.2.2 q7_57 oX_11.1 oX_11.2.1 (by decide) rfl rfl (by omega) rfl rfl rfl (Nat.le_of_ble_eq_true rfl) dX7_wordFromHere_138 ?_
                by_cases c8 : x138 = 0
                · rw [if_pos c8] at h
                  refine V_if_eqT C 149 dX7_wordFromHere_141 (by decide) c8 ?_
                  refine V_aload_n C 0 dX7_wordFromHere_149 rfl rfl ?_
                  refine V_ldcS (i := 9) C (by decide) rfl rfl dX7_wordFromHere_150 ?_
                  obtain ⟨x152, h152, h⟩ := Option.bind_eq_some_iff.mp h
                  refine V_callVi (As := [.ref (G.2.2.2.2.1 9)]) C (X7_isWord_ok h152) mw_X7_isWord.1 mw_X7_isWord.2.1 mw_X7_isWord.2.2 q7_57 oX_11.1 oX_11.2.1 (by decide) rfl rfl (by omega) rfl rfl rfl (Nat.le_of_ble_eq_true rfl) dX7_wordFromHere_152 ?_
                  by_cases c9 : x152 = 0
                  · rw [if_pos c9] at h
                    refine V_if_eqT C 163 dX7_wordFromHere_155 (by decide) c9 ?_
                    refine V_aload_n C 0 dX7_wordFromHere_163 rfl rfl ?_
                    refine V_ldcS (i := 10) C (by decide) rfl rfl dX7_wordFromHere_164 ?_
                    obtain ⟨x166, h166, h⟩ := Option.bind_eq_some_iff.mp h
                    refine V_callVi (As := [.ref (G.2.2.2.2.1 10)]) C (X7_isWord_ok h166) mw_X7_isWord.1 mw_X7_isWord.2.1 mw_X7_isWord.2.2 q7_57 oX_11.1 oX_11.2.1 (by decide) rfl rfl (by omega) rfl rfl rfl (Nat.le_of_ble_eq_true rfl) dX7_wordFromHere_166 ?_
                    by_cases c10 : x166 = 0
                    · rw [if_pos c10] at h
                      refine V_if_eqT C 177 dX7_wordFromHere_169 (by decide) c10 ?_
                      refine V_aload_n C 0 dX7_wordFromHere_177 rfl rfl ?_
                      refine V_ldcS (i := 11) C (by decide) rfl rfl dX7_wordFromHere_178 ?_
                      obtain ⟨x180, h180, h⟩ := Option.bind_eq_some_iff.mp h
                      refine V_callVi (As := [.ref (G.2.2.2.2.1 11)]) C (X7_isWord_ok h180) mw_X7_isWord.1 mw_X7_isWord.2.1 mw_X7_isWord.2.2 q7_57 oX_11.1 oX_11.2.1 (by decide) rfl rfl (by omega) rfl rfl rfl (Nat.le_of_ble_eq_true rfl) dX7_wordFromHere_180 ?_
                      by_cases c11 : x180 = 0
                      · rw [if_pos c11] at h
                        refine V_if_eqT C 191 dX7_wordFromHere_183 (by decide) c11 ?_
                        refine V_aload_n C 0 dX7_wordFromHere_191 rfl rfl ?_
                        refine V_ldcS (i := 12) C (by decide) rfl rfl dX7_wordFromHere_192 ?_
                        obtain ⟨x194, h194, h⟩ := Option.bind_eq_some_iff.mp h
                        refine V_callVi (As := [.ref (G.2.2.2.2.1 12)]) C (X7_isWord_ok h194) mw_X7_isWord.1 mw_X7_isWord.2.1 mw_X7_isWord.2.2 q7_57 oX_11.1 oX_11.2.1 (by decide) rfl rfl (by omega) rfl rfl rfl (Nat.le_of_ble_eq_true rfl) dX7_wordFromHere_194 ?_
                        by_cases c12 : x194 = 0
                        · rw [if_pos c12] at h
                          refine V_if_eqT C 205 dX7_wordFromHere_197 (by decide) c12 ?_
                          refine V_bipush C (w := (-23)) dX7_wordFromHere_205 (by decide) ?_
                          obtain rfl := Option.some.inj h
                          exact V_iret C rfl rfl dX7_wordFromHere_207
                        · rw [if_neg c12] at h
                          refine V_if_eqF C 205 dX7_wordFromHere_197 (by decide) c12 ?_
                          refine V_bipush C (w := (-9)) dX7_wordFromHere_200 (by decide) ?_
                          refine V_goto C 207 dX7_wordFromHere_202 (by decide) ?_
                          obtain rfl := Option.some.inj h
                          exact V_iret C rfl rfl dX7_wordFromHere_207
                      · rw [if_neg c11] at h
                        refine V_if_eqF C 191 dX7_wordFromHere_183 (by decide) c11 ?_
                        refine V_bipush C (w := (-8)) dX7_wordFromHere_186 (by decide) ?_
                        refine V_goto C 207 dX7_wordFromHere_188 (by decide) ?_
                        obtain rfl := Option.some.inj h
                        exact V_iret C rfl rfl dX7_wordFromHere_207
                    · rw [if_neg c10] at h
                      refine V_if_eqF C 177 dX7_wordFromHere_169 (by decide) c10 ?_
                      refine V_bipush C (w := (-7)) dX7_wordFromHere_172 (by decide) ?_
                      refine V_goto C 207 dX7_wordFromHere_174 (by decide) ?_
                      obtain rfl := Option.some.inj h
                      exact V_iret C rfl rfl dX7_wordFromHere_207
                  · rw [if_neg c9] at h
                    refine V_if_eqF C 163 dX7_wordFromHere_155 (by decide) c9 ?_
                    refine V_bipush C (w := (-18)) dX7_wordFromHere_158 (by decide) ?_
                    refine V_goto C 207 dX7_wordFromHere_160 (by decide) ?_
                    obtain rfl := Option.some.inj h
                    exact V_iret C rfl rfl dX7_wordFromHere_207
                · rw [if_neg c8] at h
                  refine V_if_eqF C 149 dX7_wordFromHere_141 (by decide) c8 ?_
                  refine V_bipush C (w := (-17)) dX7_wordFromHere_144 (by decide) ?_
                  refine V_goto C 207 dX7_wordFromHere_146 (by decide) ?_
                  obtain rfl := Option.some.inj h
                  exact V_iret C rfl rfl dX7_wordFromHere_207
              · rw [if_neg c7] at h
                refine V_if_eqF C 135 dX7_wordFromHere_127 (by decide) c7 ?_
                refine V_bipush C (w := (-16)) dX7_wordFromHere_130 (by decide) ?_
                refine V_goto C 207 dX7_wordFromHere_132 (by decide) ?_
                obtain rfl := Option.some.inj h
                exact V_iret C rfl rfl dX7_wordFromHere_207
            · rw [if_neg c6] at h
              refine V_if_eqF C 121 dX7_wordFromHere_113 (by decide) c6 ?_
              refine V_bipush C (w := (-6)) dX7_wordFromHere_116 (by decide) ?_
              refine V_goto C 207 dX7_wordFromHere_118 (by decide) ?_
              obtain rfl := Option.some.inj h
              exact V_iret C rfl rfl dX7_wordFromHere_207
          · rw [if_neg c5] at h
            refine V_if_eqF C 107 dX7_wordFromHere_99 (by decide) c5 ?_
            refine V_bipush C (w := (-5)) dX7_wordFromHere_102 (by decide) ?_
            refine V_goto C 207 dX7_wordFromHere_104 (by decide) ?_
            obtain rfl := Option.some.inj h
            exact V_iret C rfl rfl dX7_wordFromHere_207
        · rw [if_neg c4] at h
          refine V_if_eqF C 93 dX7_wordFromHere_85 (by decide) c4 ?_
          refine V_bipush C (w := (-4)) dX7_wordFromHere_88 (by decide) ?_
          refine V_goto C 207 dX7_wordFromHere_90 (by decide) ?_
          obtain rfl := Option.some.inj h
          exact V_iret C rfl rfl dX7_wordFromHere_207
      · rw [if_neg c3] at h
        refine V_if_eqF C 79 dX7_wordFromHere_71 (by decide) c3 ?_
        refine V_bipush C (w := (-3)) dX7_wordFromHere_74 (by decide) ?_
        refine V_goto C 207 dX7_wordFromHere_76 (by decide) ?_
        obtain rfl := Option.some.inj h
        exact V_iret C rfl rfl dX7_wordFromHere_207
    · rw [if_neg c2] at h
      refine V_if_eqF C 65 dX7_wordFromHere_57 (by decide) c2 ?_
      refine V_bipush C (w := (-2)) dX7_wordFromHere_60 (by decide) ?_
      refine V_goto C 207 dX7_wordFromHere_62 (by decide) ?_
      obtain rfl := Option.some.inj h
      exact V_iret C rfl rfl dX7_wordFromHere_207
  · rw [if_neg c1] at h
    refine V_if_eqF C 51 dX7_wordFromHere_44 (by decide) c1 ?_
    refine V_iconst C (w := (-1)) dX7_wordFromHere_47 (by decide) ?_
    refine V_goto C 207 dX7_wordFromHere_48 (by decide) ?_
    obtain rfl := Option.some.inj h
    exact V_iret C rfl rfl dX7_wordFromHere_207
def X7_wordFromHere_b0 : Nat → St → Option (Int32 × St)
  | 0, _ => none
  | F + 1, σ => if (σ.1 11 1) ≤ (σ.1 11 4) then (X7_wordFromHere_b38 σ) else ((X7_byteAt (σ.1 11 4) σ).bind (fun x16 => (X7_isLetter x16).bind (fun x19 => if x19 = 0 then (X7_wordFromHere_b38 σ) else (X7_wordFromHere_b0 F (up σ 11 4 ((σ.1 11 4) + 1))))))
set_option maxRecDepth 100000 in
set_option maxHeartbeats 4000000 in
theorem X7_wordFromHere_b0_ok {G : Gx} {p : Program} {l : Launch} {e : Env} {d : Nat} {s : State} {m : MethodId} {args : Array Value} {below : List Frame} {meth : Method} {c : Code} {A : Nat → Prop} (C : OK shX G p s m args meth c RX7 cX7_wordFromHere 1 (some FieldType.int) A) (hd : 8 ≤ d) : ∀ (F : Nat) {σ : St} {x : (Int32 × St)} (h : X7_wordFromHere_b0 F σ = some x), Vw shX G p l e d s m args below meth c 1 A σ 0 [(0, .ref (G.2.1 11))] [] (some (.int x.1)) x.2 := by
  intro F
  induction F with
  | zero =>
    intro σ x h
    rw [X7_wordFromHere_b0] at h
    cases h
  | succ F ih =>
    intro σ x h
    rw [X7_wordFromHere_b0] at h
    refine V_aload_n C 0 dX7_wordFromHere_0 rfl rfl ?_
    refine fg7_25 C oX_11 dX7_wordFromHere_1 ?_
    refine V_aload_n C 0 dX7_wordFromHere_4 rfl rfl ?_
    refine fg7_15 C oX_11 dX7_wordFromHere_5 ?_
    by_cases c13 : (σ.1 11 1) ≤ (σ.1 11 4)
    · rw [if_pos c13] at h
      refine V_icmp_geT C 38 dX7_wordFromHere_8 (by decide) c13 ?_
      exact X7_wordFromHere_b38_ok C hd h
    · rw [if_neg c13] at h
      refine V_icmp_geF C 38 dX7_wordFromHere_8 (by decide) c13 ?_
      refine V_aload_n C 0 dX7_wordFromHere_11 rfl rfl ?_
      refine V_aload_n C 0 dX7_wordFromHere_12 rfl rfl ?_
      refine fg7_25 C oX_11 dX7_wordFromHere_13 ?_
      obtain ⟨x16, h16, h⟩ := Option.bind_eq_some_iff.mp h
      refine V_callVi (As := [.int (σ.1 11 4)]) C (X7_byteAt_ok h16) mw_X7_byteAt.1 mw_X7_byteAt.2.1 mw_X7_byteAt.2.2 q7_31 oX_11.1 oX_11.2.1 (by decide) rfl rfl (by omega) rfl rfl rfl (Nat.le_of_ble_eq_true rfl) dX7_wordFromHere_16 ?_
      obtain ⟨x19, h19, h⟩ := Option.bind_eq_some_iff.mp h
      refine V_callSi (As := [.int x16]) C (X7_isLetter_ok h19) mw_X7_isLetter.1 mw_X7_isLetter.2 q7_39 (by omega) rfl rfl rfl (Nat.le_of_ble_eq_true rfl) dX7_wordFromHere_19 ?_
      by_cases c14 : x19 = 0
      · rw [if_pos c14] at h
        refine V_if_eqT C 38 dX7_wordFromHere_22 (by decide) c14 ?_
        exact X7_wordFromHere_b38_ok C hd h
      · rw [if_neg c14] at h
        refine V_if_eqF C 38 dX7_wordFromHere_22 (by decide) c14 ?_
        refine V_aload_n C 0 dX7_wordFromHere_25 rfl rfl ?_
        refine V_dup C dX7_wordFromHere_26 rfl ?_
        refine fg7_25 C oX_11 dX7_wordFromHere_27 ?_
        refine V_iconst C (w := 1) dX7_wordFromHere_30 (by decide) ?_
        refine V_iadd C dX7_wordFromHere_31 ?_
        refine fp7_25 C oX_11 dX7_wordFromHere_32 ?_
        refine V_goto C 0 dX7_wordFromHere_35 (by decide) ?_
        exact ih h
def X7_wordFromHere (σ : St) : Option (Int32 × St) := X7_wordFromHere_b0 FU σ
set_option maxRecDepth 100000 in
set_option maxHeartbeats 4000000 in
theorem X7_wordFromHere_ok {σ : St} {x : (Int32 × St)} (h : X7_wordFromHere σ = some x) : Ct shX (8) yX7_wordFromHere cX7_wordFromHere 1 (some FieldType.int) (fun G => [.ref (G.2.1 11)]) σ (fun G => some (.int x.1)) x.2 := by
  refine Ct.of mw_X7_wordFromHere.1 (by decide +kernel) (fun G => Nat.le_of_ble_eq_true rfl) (fun G p l e d s m args below meth c A hd C => ?_)
  refine (?_ : Vw shX G p l e d s m args below meth c 1 A σ 0 [(0, .ref (G.2.1 11))] [] (some (.int x.1)) x.2)
  unfold X7_wordFromHere at h
  exact X7_wordFromHere_b0_ok C hd FU h
def X7_isDigit (l0 : Int32) : Option Int32 := if l0 < 48 then (some 0) else (if 57 < l0 then (some 0) else (some 1))
set_option maxRecDepth 100000 in
set_option maxHeartbeats 4000000 in
theorem X7_isDigit_ok {l0 : Int32} {σ : St} {x : Int32} (h : X7_isDigit l0 = some x) : Ct shX (1) yX7_isDigit cX7_isDigit 1 (some FieldType.boolean) (fun G => [.int l0]) σ (fun G => some (.int x)) σ := by
  refine Ct.of mw_X7_isDigit.1 (by decide +kernel) (fun G => Nat.le_of_ble_eq_true rfl) (fun G p l e d s m args below meth c A hd C => ?_)
  refine (?_ : Vw shX G p l e d s m args below meth c 1 A σ 0 [(0, .int l0)] [] (some (.int x)) σ)
  unfold X7_isDigit at h
  refine V_iload_n C 0 dX7_isDigit_0 rfl rfl ?_
  refine V_bipush C (w := 48) dX7_isDigit_1 (by decide) ?_
  by_cases c1 : l0 < 48
  · rw [if_pos c1] at h
    refine V_icmp_ltT C 16 dX7_isDigit_3 (by decide) c1 ?_
    refine V_iconst C (w := 0) dX7_isDigit_16 (by decide) ?_
    obtain rfl := Option.some.inj h
    exact V_iret C rfl (nz (Or.inl rfl)) dX7_isDigit_17
  · rw [if_neg c1] at h
    refine V_icmp_ltF C 16 dX7_isDigit_3 (by decide) c1 ?_
    refine V_iload_n C 0 dX7_isDigit_6 rfl rfl ?_
    refine V_bipush C (w := 57) dX7_isDigit_7 (by decide) ?_
    by_cases c2 : 57 < l0
    · rw [if_pos c2] at h
      refine V_icmp_gtT C 16 dX7_isDigit_9 (by decide) c2 ?_
      refine V_iconst C (w := 0) dX7_isDigit_16 (by decide) ?_
      obtain rfl := Option.some.inj h
      exact V_iret C rfl (nz (Or.inl rfl)) dX7_isDigit_17
    · rw [if_neg c2] at h
      refine V_icmp_gtF C 16 dX7_isDigit_9 (by decide) c2 ?_
      refine V_iconst C (w := 1) dX7_isDigit_12 (by decide) ?_
      refine V_goto C 17 dX7_isDigit_13 (by decide) ?_
      obtain rfl := Option.some.inj h
      exact V_iret C rfl (nz (Or.inr rfl)) dX7_isDigit_17
def X7_numberFromHere_b57 (l1 : Int32) (σ : St) : Option (Int32 × St) := if ((σ.1 11 4) - (σ.1 11 3)) ≤ 4 then (some (l1, σ)) else (some ((-23), σ))
set_option maxRecDepth 100000 in
set_option maxHeartbeats 4000000 in
theorem X7_numberFromHere_b57_ok {G : Gx} {p : Program} {l : Launch} {e : Env} {d : Nat} {s : State} {m : MethodId} {args : Array Value} {below : List Frame} {meth : Method} {c : Code} {A : Nat → Prop} (C : OK shX G p s m args meth c RX7 cX7_numberFromHere 2 (some FieldType.int) A) (hd : 2 ≤ d) {l1 : Int32} {σ : St} {x : (Int32 × St)} (h : X7_numberFromHere_b57 l1 σ = some x) : Vw shX G p l e d s m args below meth c 2 A σ 57 [(0, .ref (G.2.1 11)), (1, .int l1)] [] (some (.int x.1)) x.2 := by
  unfold X7_numberFromHere_b57 at h
  refine V_aload_n C 0 dX7_numberFromHere_57 rfl rfl ?_
  refine fg7_25 C oX_11 dX7_numberFromHere_58 ?_
  refine V_aload_n C 0 dX7_numberFromHere_61 rfl rfl ?_
  refine fg7_22 C oX_11 dX7_numberFromHere_62 ?_
  refine V_isub C dX7_numberFromHere_65 ?_
  refine V_iconst C (w := 4) dX7_numberFromHere_66 (by decide) ?_
  by_cases c1 : ((σ.1 11 4) - (σ.1 11 3)) ≤ 4
  · rw [if_pos c1] at h
    refine V_icmp_leT C 75 dX7_numberFromHere_67 (by decide) c1 ?_
    refine V_iload_n C 1 dX7_numberFromHere_75 rfl rfl ?_
    obtain rfl := Option.some.inj h
    exact V_iret C rfl rfl dX7_numberFromHere_76
  · rw [if_neg c1] at h
    refine V_icmp_leF C 75 dX7_numberFromHere_67 (by decide) c1 ?_
    refine V_bipush C (w := (-23)) dX7_numberFromHere_70 (by decide) ?_
    refine V_goto C 76 dX7_numberFromHere_72 (by decide) ?_
    obtain rfl := Option.some.inj h
    exact V_iret C rfl rfl dX7_numberFromHere_76
def X7_numberFromHere_b2 : Nat → Int32 → St → Option (Int32 × St)
  | 0, _, _ => none
  | F + 1, l1, σ => if (σ.1 11 1) ≤ (σ.1 11 4) then (X7_numberFromHere_b57 l1 σ) else ((X7_byteAt (σ.1 11 4) σ).bind (fun x18 => (X7_isDigit x18).bind (fun x21 => if x21 = 0 then (X7_numberFromHere_b57 l1 σ) else ((X7_byteAt (σ.1 11 4) σ).bind (fun x36 => X7_numberFromHere_b2 F (((l1 * 10) + x36) - 48) (up σ 11 4 ((σ.1 11 4) + 1)))))))
set_option maxRecDepth 100000 in
set_option maxHeartbeats 4000000 in
theorem X7_numberFromHere_b2_ok {G : Gx} {p : Program} {l : Launch} {e : Env} {d : Nat} {s : State} {m : MethodId} {args : Array Value} {below : List Frame} {meth : Method} {c : Code} {A : Nat → Prop} (C : OK shX G p s m args meth c RX7 cX7_numberFromHere 2 (some FieldType.int) A) (hd : 2 ≤ d) : ∀ (F : Nat) {l1 : Int32} {σ : St} {x : (Int32 × St)} (h : X7_numberFromHere_b2 F l1 σ = some x), Vw shX G p l e d s m args below meth c 2 A σ 2 [(0, .ref (G.2.1 11)), (1, .int l1)] [] (some (.int x.1)) x.2 := by
  intro F
  induction F with
  | zero =>
    intro l1 σ x h
    rw [X7_numberFromHere_b2] at h
    cases h
  | succ F ih =>
    intro l1 σ x h
    rw [X7_numberFromHere_b2] at h
    refine V_aload_n C 0 dX7_numberFromHere_2 rfl rfl ?_
    refine fg7_25 C oX_11 dX7_numberFromHere_3 ?_
    refine V_aload_n C 0 dX7_numberFromHere_6 rfl rfl ?_
    refine fg7_15 C oX_11 dX7_numberFromHere_7 ?_
    by_cases c2 : (σ.1 11 1) ≤ (σ.1 11 4)
    · rw [if_pos c2] at h
      refine V_icmp_geT C 57 dX7_numberFromHere_10 (by decide) c2 ?_
      exact X7_numberFromHere_b57_ok C hd h
    · rw [if_neg c2] at h
      refine V_icmp_geF C 57 dX7_numberFromHere_10 (by decide) c2 ?_
      refine V_aload_n C 0 dX7_numberFromHere_13 rfl rfl ?_
      refine V_aload_n C 0 dX7_numberFromHere_14 rfl rfl ?_
      refine fg7_25 C oX_11 dX7_numberFromHere_15 ?_
      obtain ⟨x18, h18, h⟩ := Option.bind_eq_some_iff.mp h
      refine V_callVi (As := [.int (σ.1 11 4)]) C (X7_byteAt_ok h18) mw_X7_byteAt.1 mw_X7_byteAt.2.1 mw_X7_byteAt.2.2 q7_31 oX_11.1 oX_11.2.1 (by decide) rfl rfl (by omega) rfl rfl rfl (Nat.le_of_ble_eq_true rfl) dX7_numberFromHere_18 ?_
      obtain ⟨x21, h21, h⟩ := Option.bind_eq_some_iff.mp h
      refine V_callSi (As := [.int x18]) C (X7_isDigit_ok h21) mw_X7_isDigit.1 mw_X7_isDigit.2 q7_46 (by omega) rfl rfl rfl (Nat.le_of_ble_eq_true rfl) dX7_numberFromHere_21 ?_
      by_cases c3 : x21 = 0
      · rw [if_pos c3] at h
        refine V_if_eqT C 57 dX7_numberFromHere_24 (by decide) c3 ?_
        exact X7_numberFromHere_b57_ok C hd h
      · rw [if_neg c3] at h
        refine V_if_eqF C 57 dX7_numberFromHere_24 (by decide) c3 ?_
        refine V_iload_n C 1 dX7_numberFromHere_27 rfl rfl ?_
        refine V_bipush C (w := 10) dX7_numberFromHere_28 (by decide) ?_
        refine V_imul C dX7_numberFromHere_30 ?_
        refine V_aload_n C 0 dX7_numberFromHere_31 rfl rfl ?_
        refine V_aload_n C 0 dX7_numberFromHere_32 rfl rfl ?_
        refine fg7_25 C oX_11 dX7_numberFromHere_33 ?_
        obtain ⟨x36, h36, h⟩ := Option.bind_eq_some_iff.mp h
        refine V_callVi (As := [.int (σ.1 11 4)]) C (X7_byteAt_ok h36) mw_X7_byteAt.1 mw_X7_byteAt.2.1 mw_X7_byteAt.2.2 q7_31 oX_11.1 oX_11.2.1 (by decide) rfl rfl (by omega) rfl rfl rfl (Nat.le_of_ble_eq_true rfl) dX7_numberFromHere_36 ?_
        refine V_iadd C dX7_numberFromHere_39 ?_
        refine V_bipush C (w := 48) dX7_numberFromHere_40 (by decide) ?_
        refine V_isub C dX7_numberFromHere_42 ?_
        refine V_istore_n C (lv' := [(1, .int (((l1 * 10) + x36) - 48)), (0, .ref (G.2.1 11))]) dX7_numberFromHere_43 rfl (by decide) rfl ?_
        refine V_aload_n C 1 dX7_numberFromHere_44 rfl rfl ?_
        refine V_dup C dX7_numberFromHere_45 rfl ?_
        refine fg7_25 C oX_11 dX7_numberFromHere_46 ?_
        refine V_iconst C (w := 1) dX7_numberFromHere_49 (by decide) ?_
        refine V_iadd C dX7_numberFromHere_50 ?_
        refine fp7_25 C oX_11 dX7_numberFromHere_51 ?_
        refine V_goto C 2 dX7_numberFromHere_54 (by decide) ?_
        refine V_sub (lv' := [(0, .ref (G.2.1 11)), (1, .int (((l1 * 10) + x36) - 48))]) [1, 0] rfl ?_
        exact ih h
def X7_numberFromHere (σ : St) : Option (Int32 × St) := X7_numberFromHere_b2 FU 0 σ
set_option maxRecDepth 100000 in
set_option maxHeartbeats 4000000 in
theorem X7_numberFromHere_ok {σ : St} {x : (Int32 × St)} (h : X7_numberFromHere σ = some x) : Ct shX (2) yX7_numberFromHere cX7_numberFromHere 2 (some FieldType.int) (fun G => [.ref (G.2.1 11)]) σ (fun G => some (.int x.1)) x.2 := by
  refine Ct.of mw_X7_numberFromHere.1 (by decide +kernel) (fun G => Nat.le_of_ble_eq_true rfl) (fun G p l e d s m args below meth c A hd C => ?_)
  refine (?_ : Vw shX G p l e d s m args below meth c 2 A σ 0 [(0, .ref (G.2.1 11))] [] (some (.int x.1)) x.2)
  unfold X7_numberFromHere at h
  refine V_iconst C (w := 0) dX7_numberFromHere_0 (by decide) ?_
  refine V_istore_n C (lv' := [(1, .int 0), (0, .ref (G.2.1 11))]) dX7_numberFromHere_1 rfl (by decide) rfl ?_
  refine V_sub (lv' := [(0, .ref (G.2.1 11)), (1, .int 0)]) [1, 0] rfl ?_
  exact X7_numberFromHere_b2_ok C hd FU h
def X7_signOf (l0 : Int32) : Option Int32 := if l0 = 40 then (some (-19)) else (if l0 = 41 then (some (-20)) else (if l0 = 42 then (some (-14)) else (if l0 = 43 then (some (-12)) else (if l0 = 44 then (some (-23)) else (if l0 = 45 then (some (-13)) else (if l0 = 46 then (some (-23)) else (if l0 = 47 then (some (-23)) else (if l0 = 48 then (some (-23)) else (if l0 = 49 then (some (-23)) else (if l0 = 50 then (some (-23)) else (if l0 = 51 then (some (-23)) else (if l0 = 52 then (some (-23)) else (if l0 = 53 then (some (-23)) else (if l0 = 54 then (some (-23)) else (if l0 = 55 then (some (-23)) else (if l0 = 56 then (some (-23)) else (if l0 = 57 then (some (-23)) else (if l0 = 58 then (some (-23)) else (if l0 = 59 then (some (-21)) else (if l0 = 60 then (some (-10)) else (if l0 = 61 then (some (-11)) else (some (-23)))))))))))))))))))))))
set_option maxRecDepth 100000 in
set_option maxHeartbeats 4000000 in
theorem X7_signOf_ok {l0 : Int32} {σ : St} {x : Int32} (h : X7_signOf l0 = some x) : Ct shX (1) yX7_signOf cX7_signOf 1 (some FieldType.int) (fun G => [.int l0]) σ (fun G => some (.int x)) σ := by
  refine Ct.of mw_X7_signOf.1 (by decide +kernel) (fun G => Nat.le_of_ble_eq_true rfl) (fun G p l e d s m args below meth c A hd C => ?_)
  refine (?_ : Vw shX G p l e d s m args below meth c 1 A σ 0 [(0, .int l0)] [] (some (.int x)) σ)
  unfold X7_signOf at h
  refine V_iload_n C 0 dX7_signOf_0 rfl rfl ?_
  by_cases c1 : l0 = 40
  · rw [if_pos c1] at h
    refine V_tableIn (off := 103) C 104 dX7_signOf_1 (by rw [c1]; decide) (by decide) ?_
    refine V_bipush C (w := (-19)) dX7_signOf_104 (by decide) ?_
    obtain rfl := Option.some.inj h
    exact V_iret C rfl rfl dX7_signOf_106
  · rw [if_neg c1] at h
    by_cases c2 : l0 = 41
    · rw [if_pos c2] at h
      refine V_tableIn (off := 106) C 107 dX7_signOf_1 (by rw [c2]; decide) (by decide) ?_
      refine V_bipush C (w := (-20)) dX7_signOf_107 (by decide) ?_
      obtain rfl := Option.some.inj h
      exact V_iret C rfl rfl dX7_signOf_109
    · rw [if_neg c2] at h
      by_cases c3 : l0 = 42
      · rw [if_pos c3] at h
        refine V_tableIn (off := 118) C 119 dX7_signOf_1 (by rw [c3]; decide) (by decide) ?_
        refine V_bipush C (w := (-14)) dX7_signOf_119 (by decide) ?_
        obtain rfl := Option.some.inj h
        exact V_iret C rfl rfl dX7_signOf_121
      · rw [if_neg c3] at h
        by_cases c4 : l0 = 43
        · rw [if_pos c4] at h
          refine V_tableIn (off := 112) C 113 dX7_signOf_1 (by rw [c4]; decide) (by decide) ?_
          refine V_bipush C (w := (-12)) dX7_signOf_113 (by decide) ?_
          obtain rfl := Option.some.inj h
          exact V_iret C rfl rfl dX7_signOf_115
        · rw [if_neg c4] at h
          by_cases c5 : l0 = 44
          · rw [if_pos c5] at h
            refine V_tableIn (off := 127) C 128 dX7_signOf_1 (by rw [c5]; decide) (by decide) ?_
            refine V_bipush C (w := (-23)) dX7_signOf_128 (by decide) ?_
            obtain rfl := Option.some.inj h
            exact V_iret C rfl rfl dX7_signOf_130
          · rw [if_neg c5] at h
            by_cases c6 : l0 = 45
            · rw [if_pos c6] at h
              refine V_tableIn (off := 115) C 116 dX7_signOf_1 (by rw [c6]; decide) (by decide) ?_
              refine V_bipush C (w := (-13)) dX7_signOf_116 (by decide) ?_
              obtain rfl := Option.some.inj h
              exact V_iret C rfl rfl dX7_signOf_118
            · rw [if_neg c6] at h
              by_cases c7 : l0 = 46
              · rw [if_pos c7] at h
                refine V_tableIn (off := 127) C 128 dX7_signOf_1 (by rw [c7]; decide) (by decide) ?_
                refine V_bipush C (w := (-23)) dX7_signOf_128 (by decide) ?_
                obtain rfl := Option.some.inj h
                exact V_iret C rfl rfl dX7_signOf_130
              · rw [if_neg c7] at h
                by_cases c8 : l0 = 47
                · rw [if_pos c8] at h
                  refine V_tableIn (off := 127) C 128 dX7_signOf_1 (by rw [c8]; decide) (by decide) ?_
                  refine V_bipush C (w := (-23)) dX7_signOf_128 (by decide) ?_
                  obtain rfl := Option.some.inj h
                  exact V_iret C rfl rfl dX7_signOf_130
                · rw [if_neg c8] at h
                  by_cases c9 : l0 = 48
                  · rw [if_pos c9] at h
                    refine V_tableIn (off := 127) C 128 dX7_signOf_1 (by rw [c9]; decide) (by decide) ?_
                    refine V_bipush C (w := (-23)) dX7_signOf_128 (by decide) ?_
                    obtain rfl := Option.some.inj h
                    exact V_iret C rfl rfl dX7_signOf_130
                  · rw [if_neg c9] at h
                    by_cases c10 : l0 = 49
                    · rw [if_pos c10] at h
                      refine V_tableIn (off := 127) C 128 dX7_signOf_1 (by rw [c10]; decide) (by decide) ?_
                      refine V_bipush C (w := (-23)) dX7_signOf_128 (by decide) ?_
                      obtain rfl := Option.some.inj h
                      exact V_iret C rfl rfl dX7_signOf_130
                    · rw [if_neg c10] at h
                      by_cases c11 : l0 = 50
                      · rw [if_pos c11] at h
                        refine V_tableIn (off := 127) C 128 dX7_signOf_1 (by rw [c11]; decide) (by decide) ?_
                        refine V_bipush C (w := (-23)) dX7_signOf_128 (by decide) ?_
                        obtain rfl := Option.some.inj h
                        exact V_iret C rfl rfl dX7_signOf_130
                      · rw [if_neg c11] at h
                        by_cases c12 : l0 = 51
                        · rw [if_pos c12] at h
                          refine V_tableIn (off := 127) C 128 dX7_signOf_1 (by rw [c12]; decide) (by decide) ?_
                          refine V_bipush C (w := (-23)) dX7_signOf_128 (by decide) ?_
                          obtain rfl := Option.some.inj h
                          exact V_iret C rfl rfl dX7_signOf_130
                        · rw [if_neg c12] at h
                          by_cases c13 : l0 = 52
                          · rw [if_pos c13] at h
                            refine V_tableIn (off := 127) C 128 dX7_signOf_1 (by rw [c13]; decide) (by decide) ?_
                            refine V_bipush C (w := (-23)) dX7_signOf_128 (by decide) ?_
                            obtain rfl := Option.some.inj h
                            exact V_iret C rfl rfl dX7_signOf_130
                          · rw [if_neg c13] at h
                            by_cases c14 : l0 = 53
                            · rw [if_pos c14] at h
                              refine V_tableIn (off := 127) C 128 dX7_signOf_1 (by rw [c14]; decide) (by decide) ?_
                              refine V_bipush C (w := (-23)) dX7_signOf_128 (by decide) ?_
                              obtain rfl := Option.some.inj h
                              exact V_iret C rfl rfl dX7_signOf_130
                            · rw [if_neg c14] at h
                              by_cases c15 : l0 = 54
                              · rw [if_pos c15] at h
                                refine V_tableIn (off := 127) C 128 dX7_signOf_1 (by rw [c15]; decide) (by decide) ?_
                                refine V_bipush C (w := (-23)) dX7_signOf_128 (by decide) ?_
                                obtain rfl := Option.some.inj h
                                exact V_iret C rfl rfl dX7_signOf_130
                              · rw [if_neg c15] at h
                                by_cases c16 : l0 = 55
                                · rw [if_pos c16] at h
                                  refine V_tableIn (off := 127) C 128 dX7_signOf_1 (by rw [c16]; decide) (by decide) ?_
                                  refine V_bipush C (w := (-23)) dX7_signOf_128 (by decide) ?_
                                  obtain rfl := Option.some.inj h
                                  exact V_iret C rfl rfl dX7_signOf_130
                                · rw [if_neg c16] at h
                                  by_cases c17 : l0 = 56
                                  · rw [if_pos c17] at h
                                    refine V_tableIn (off := 127) C 128 dX7_signOf_1 (by rw [c17]; decide) (by decide) ?_
                                    refine V_bipush C (w := (-23)) dX7_signOf_128 (by decide) ?_
                                    obtain rfl := Option.some.inj h
                                    exact V_iret C rfl rfl dX7_signOf_130
                                  · rw [if_neg c17] at h
                                    by_cases c18 : l0 = 57
                                    · rw [if_pos c18] at h
                                      refine V_tableIn (off := 127) C 128 dX7_signOf_1 (by rw [c18]; decide) (by decide) ?_
                                      refine V_bipush C (w := (-23)) dX7_signOf_128 (by decide) ?_
                                      obtain rfl := Option.some.inj h
                                      exact V_iret C rfl rfl dX7_signOf_130
                                    · rw [if_neg c18] at h
                                      by_cases c19 : l0 = 58
                                      · rw [if_pos c19] at h
                                        refine V_tableIn (off := 127) C 128 dX7_signOf_1 (by rw [c19]; decide) (by decide) ?_
                                        refine V_bipush C (w := (-23)) dX7_signOf_128 (by decide) ?_
                                        obtain rfl := Option.some.inj h
                                        exact V_iret C rfl rfl dX7_signOf_130
                                      · rw [if_neg c19] at h
                                        by_cases c20 : l0 = 59
                                        · rw [if_pos c20] at h
                                          refine V_tableIn (off := 109) C 110 dX7_signOf_1 (by rw [c20]; decide) (by decide) ?_
                                          refine V_bipush C (w := (-21)) dX7_signOf_110 (by decide) ?_
                                          obtain rfl := Option.some.inj h
                                          exact V_iret C rfl rfl dX7_signOf_112
                                        · rw [if_neg c20] at h
                                          by_cases c21 : l0 = 60
                                          · rw [if_pos c21] at h
                                            refine V_tableIn (off := 121) C 122 dX7_signOf_1 (by rw [c21]; decide) (by decide) ?_
                                            refine V_bipush C (w := (-10)) dX7_signOf_122 (by decide) ?_
                                            obtain rfl := Option.some.inj h
                                            exact V_iret C rfl rfl dX7_signOf_124
                                          · rw [if_neg c21] at h
                                            by_cases c22 : l0 = 61
                                            · rw [if_pos c22] at h
                                              refine V_tableIn (off := 124) C 125 dX7_signOf_1 (by rw [c22]; decide) (by decide) ?_
                                              refine V_bipush C (w := (-11)) dX7_signOf_125 (by decide) ?_
                                              obtain rfl := Option.some.inj h
                                              exact V_iret C rfl rfl dX7_signOf_127
                                            · rw [if_neg c22] at h
                                              have nc1 := ti_ne c1 (show (40 : Int32).toInt = 40 by decide)
                                              have nc2 := ti_ne c2 (show (41 : Int32).toInt = 41 by decide)
                                              have nc3 := ti_ne c3 (show (42 : Int32).toInt = 42 by decide)
                                              have nc4 := ti_ne c4 (show (43 : Int32).toInt = 43 by decide)
                                              have nc5 := ti_ne c5 (show (44 : Int32).toInt = 44 by decide)
                                              have nc6 := ti_ne c6 (show (45 : Int32).toInt = 45 by decide)
                                              have nc7 := ti_ne c7 (show (46 : Int32).toInt = 46 by decide)
                                              have nc8 := ti_ne c8 (show (47 : Int32).toInt = 47 by decide)
                                              have nc9 := ti_ne c9 (show (48 : Int32).toInt = 48 by decide)
                                              have nc10 := ti_ne c10 (show (49 : Int32).toInt = 49 by decide)
                                              have nc11 := ti_ne c11 (show (50 : Int32).toInt = 50 by decide)
                                              have nc12 := ti_ne c12 (show (51 : Int32).toInt = 51 by decide)
                                              have nc13 := ti_ne c13 (show (52 : Int32).toInt = 52 by decide)
                                              have nc14 := ti_ne c14 (show (53 : Int32).toInt = 53 by decide)
                                              have nc15 := ti_ne c15 (show (54 : Int32).toInt = 54 by decide)
                                              have nc16 := ti_ne c16 (show (55 : Int32).toInt = 55 by decide)
                                              have nc17 := ti_ne c17 (show (56 : Int32).toInt = 56 by decide)
                                              have nc18 := ti_ne c18 (show (57 : Int32).toInt = 57 by decide)
                                              have nc19 := ti_ne c19 (show (58 : Int32).toInt = 58 by decide)
                                              have nc20 := ti_ne c20 (show (59 : Int32).toInt = 59 by decide)
                                              have nc21 := ti_ne c21 (show (60 : Int32).toInt = 60 by decide)
                                              have nc22 := ti_ne c22 (show (61 : Int32).toInt = 61 by decide)
                                              refine V_tableOut C 128 dX7_signOf_1 (by omega) (by decide) ?_
                                              refine V_bipush C (w := (-23)) dX7_signOf_128 (by decide) ?_
                                              obtain rfl := Option.some.inj h
                                              exact V_iret C rfl rfl dX7_signOf_130
def X7_step_b38 (σ : St) : Option St := if ((up σ 11 3 (σ.1 11 4)).1 11 4) < ((up σ 11 3 (σ.1 11 4)).1 11 1) then ((X7_byteAt ((up σ 11 3 (σ.1 11 4)).1 11 4) (up σ 11 3 (σ.1 11 4))).bind (fun x71 => (X7_isLetter x71).bind (fun x74 => if x74 = 0 then ((X7_byteAt ((up σ 11 3 (σ.1 11 4)).1 11 4) (up σ 11 3 (σ.1 11 4))).bind (fun x96 => (X7_isDigit x96).bind (fun x99 => if x99 = 0 then ((X7_byteAt ((up σ 11 3 (σ.1 11 4)).1 11 4) (up σ 11 3 (σ.1 11 4))).bind (fun x122 => (X7_signOf x122).bind (fun x125 => some (up (up (up σ 11 3 (σ.1 11 4)) 11 2 x125) 11 4 (((up (up σ 11 3 (σ.1 11 4)) 11 2 x125).1 11 4) + 1))))) else ((X7_numberFromHere (up σ 11 3 (σ.1 11 4))).bind (fun x107 => some (up x107.2 11 2 x107.1)))))) else ((X7_wordFromHere (up σ 11 3 (σ.1 11 4))).bind (fun x82 => some (up x82.2 11 2 x82.1)))))) else (some (up (up σ 11 3 (σ.1 11 4)) 11 2 (-22)))
set_option maxRecDepth 100000 in
set_option maxHeartbeats 4000000 in
theorem X7_step_b38_ok {G : Gx} {p : Program} {l : Launch} {e : Env} {d : Nat} {s : State} {m : MethodId} {args : Array Value} {below : List Frame} {meth : Method} {c : Code} {A : Nat → Prop} (C : OK shX G p s m args meth c RX7 cX7_step 1 none A) (hd : 9 ≤ d) {σ : St} {x : St} (h : X7_step_b38 σ = some x) : Vw shX G p l e d s m args below meth c 1 A σ 38 [(0, .ref (G.2.1 11))] [] (none) x := by
  unfold X7_step_b38 at h
  refine V_aload_n C 0 dX7_step_38 rfl rfl ?_
  refine V_aload_n C 0 dX7_step_39 rfl rfl ?_
  refine fg7_25 C oX_11 dX7_step_40 ?_
  refine fp7_22 C oX_11 dX7_step_43 ?_
  refine V_aload_n C 0 dX7_step_46 rfl rfl ?_
  refine fg7_25 C oX_11 dX7_step_47 ?_
  refine V_aload_n C 0 dX7_step_50 rfl rfl ?_
  refine fg7_15 C oX_11 dX7_step_51 ?_
  by_cases c1 : ((up σ 11 3 (σ.1 11 4)).1 11 4) < ((up σ 11 3 (σ.1 11 4)).1 11 1)
  · rw [if_pos c1] at h
    refine V_icmp_ltT C 66 dX7_step_54 (by decide) c1 ?_
    refine V_aload_n C 0 dX7_step_66 rfl rfl ?_
    refine V_aload_n C 0 dX7_step_67 rfl rfl ?_
    refine fg7_25 C oX_11 dX7_step_68 ?_
    obtain ⟨x71, h71, h⟩ := Option.bind_eq_some_iff.mp h
    refine V_callVi (As := [.int ((up σ 11 3 (σ.1 11 4)).1 11 4)]) C (X7_byteAt_ok h71) mw_X7_byteAt.1 mw_X7_byteAt.2.1 mw_X7_byteAt.2.2 q7_31 oX_11.1 oX_11.2.1 (by decide) rfl rfl (by omega) rfl rfl rfl (Nat.le_of_ble_eq_true rfl) dX7_step_71 ?_
    obtain ⟨x74, h74, h⟩ := Option.bind_eq_some_iff.mp h
    refine V_callSi (As := [.int x71]) C (X7_isLetter_ok h74) mw_X7_isLetter.1 mw_X7_isLetter.2 q7_39 (by omega) rfl rfl rfl (Nat.le_of_ble_eq_true rfl) dX7_step_74 ?_
    by_cases c2 : x74 = 0
    · rw [if_pos c2] at h
      refine V_if_eqT C 91 dX7_step_77 (by decide) c2 ?_
      refine V_aload_n C 0 dX7_step_91 rfl rfl ?_
      refine V_aload_n C 0 dX7_step_92 rfl rfl ?_
      refine fg7_25 C oX_11 dX7_step_93 ?_
      obtain ⟨x96, h96, h⟩ := Option.bind_eq_some_iff.mp h
      refine V_callVi (As := [.int ((up σ 11 3 (σ.1 11 4)).1 11 4)]) C (X7_byteAt_ok h96) mw_X7_byteAt.1 mw_X7_byteAt.2.1 mw_X7_byteAt.2.2 q7_31 oX_11.1 oX_11.2.1 (by decide) rfl rfl (by omega) rfl rfl rfl (Nat.le_of_ble_eq_true rfl) dX7_step_96 ?_
      obtain ⟨x99, h99, h⟩ := Option.bind_eq_some_iff.mp h
      refine V_callSi (As := [.int x96]) C (X7_isDigit_ok h99) mw_X7_isDigit.1 mw_X7_isDigit.2 q7_46 (by omega) rfl rfl rfl (Nat.le_of_ble_eq_true rfl) dX7_step_99 ?_
      by_cases c3 : x99 = 0
      · rw [if_pos c3] at h
        refine V_if_eqT C 116 dX7_step_102 (by decide) c3 ?_
        refine V_aload_n C 0 dX7_step_116 rfl rfl ?_
        refine V_aload_n C 0 dX7_step_117 rfl rfl ?_
        refine V_aload_n C 0 dX7_step_118 rfl rfl ?_
        refine fg7_25 C oX_11 dX7_step_119 ?_
        obtain ⟨x122, h122, h⟩ := Option.bind_eq_some_iff.mp h
        refine V_callVi (As := [.int ((up σ 11 3 (σ.1 11 4)).1 11 4)]) C (X7_byteAt_ok h122) mw_X7_byteAt.1 mw_X7_byteAt.2.1 mw_X7_byteAt.2.2 q7_31 oX_11.1 oX_11.2.1 (by decide) rfl rfl (by omega) rfl rfl rfl (Nat.le_of_ble_eq_true rfl) dX7_step_122 ?_
        obtain ⟨x125, h125, h⟩ := Option.bind_eq_some_iff.mp h
        refine V_callSi (As := [.int x122]) C (X7_signOf_ok h125) mw_X7_signOf.1 mw_X7_signOf.2 q7_52 (by omega) rfl rfl rfl (Nat.le_of_ble_eq_true rfl) dX7_step_125 ?_
        refine fp7_19 C oX_11 dX7_step_128 ?_
        refine V_aload_n C 0 dX7_step_131 rfl rfl ?_
        refine V_dup C dX7_step_132 rfl ?_
        refine fg7_25 C oX_11 dX7_step_133 ?_
        refine V_iconst C (w := 1) dX7_step_136 (by decide) ?_
        refine V_iadd C dX7_step_137 ?_
        refine fp7_25 C oX_11 dX7_step_138 ?_
        obtain rfl := Option.some.inj h
        exact V_vret C rfl dX7_step_141
      · rw [if_neg c3] at h
        refine V_if_eqF C 116 dX7_step_102 (by decide) c3 ?_
        refine V_aload_n C 0 dX7_step_105 rfl rfl ?_
        refine V_aload_n C 0 dX7_step_106 rfl rfl ?_
        obtain ⟨x107, h107, h⟩ := Option.bind_eq_some_iff.mp h
        refine V_callVi (As := []) C (X7_numberFromHere_ok h107) mw_X7_numberFromHere.1 mw_X7_numberFromHere.2.1 mw_X7_numberFromHere.2.2 q7_49 oX_11.1 oX_11.2.1 (by decide) rfl rfl (by omega) rfl rfl rfl (Nat.le_of_ble_eq_true rfl) dX7_step_107 ?_
        refine fp7_19 C oX_11 dX7_step_110 ?_
        refine V_goto C 141 dX7_step_113 (by decide) ?_
        obtain rfl := Option.some.inj h
        exact V_vret C rfl dX7_step_141
    · rw [if_neg c2] at h
      refine V_if_eqF C 91 dX7_step_77 (by decide) c2 ?_
      refine V_aload_n C 0 dX7_step_80 rfl rfl ?_
      refine V_aload_n C 0 dX7_step_81 rfl rfl ?_
      obtain ⟨x82, h82, h⟩ := Option.bind_eq_some_iff.mp h
      refine V_callVi (As := []) C (X7_wordFromHere_ok h82) mw_X7_wordFromHere.1 mw_X7_wordFromHere.2.1 mw_X7_wordFromHere.2.2 q7_42 oX_11.1 oX_11.2.1 (by decide) rfl rfl (by omega) rfl rfl rfl (Nat.le_of_ble_eq_true rfl) dX7_step_82 ?_
      refine fp7_19 C oX_11 dX7_step_85 ?_
      refine V_goto C 141 dX7_step_88 (by decide) ?_
      obtain rfl := Option.some.inj h
      exact V_vret C rfl dX7_step_141
  · rw [if_neg c1] at h
    refine V_icmp_ltF C 66 dX7_step_54 (by decide) c1 ?_
    refine V_aload_n C 0 dX7_step_57 rfl rfl ?_
    refine V_bipush C (w := (-22)) dX7_step_58 (by decide) ?_
    refine fp7_19 C oX_11 dX7_step_60 ?_
    refine V_goto C 141 dX7_step_63 (by decide) ?_
    obtain rfl := Option.some.inj h
    exact V_vret C rfl dX7_step_141
def X7_step_b0 : Nat → St → Option St
  | 0, _ => none
  | F + 1, σ => if (σ.1 11 1) ≤ (σ.1 11 4) then (X7_step_b38 σ) else ((X7_byteAt (σ.1 11 4) σ).bind (fun x16 => (X7_isBlank x16).bind (fun x19 => if x19 = 0 then (X7_step_b38 σ) else (X7_step_b0 F (up σ 11 4 ((σ.1 11 4) + 1))))))
set_option maxRecDepth 100000 in
set_option maxHeartbeats 4000000 in
theorem X7_step_b0_ok {G : Gx} {p : Program} {l : Launch} {e : Env} {d : Nat} {s : State} {m : MethodId} {args : Array Value} {below : List Frame} {meth : Method} {c : Code} {A : Nat → Prop} (C : OK shX G p s m args meth c RX7 cX7_step 1 none A) (hd : 9 ≤ d) : ∀ (F : Nat) {σ : St} {x : St} (h : X7_step_b0 F σ = some x), Vw shX G p l e d s m args below meth c 1 A σ 0 [(0, .ref (G.2.1 11))] [] (none) x := by
  intro F
  induction F with
  | zero =>
    intro σ x h
    rw [X7_step_b0] at h
    cases h
  | succ F ih =>
    intro σ x h
    rw [X7_step_b0] at h
    refine V_aload_n C 0 dX7_step_0 rfl rfl ?_
    refine fg7_25 C oX_11 dX7_step_1 ?_
    refine V_aload_n C 0 dX7_step_4 rfl rfl ?_
    refine fg7_15 C oX_11 dX7_step_5 ?_
    by_cases c4 : (σ.1 11 1) ≤ (σ.1 11 4)
    · rw [if_pos c4] at h
      refine V_icmp_geT C 38 dX7_step_8 (by decide) c4 ?_
      exact X7_step_b38_ok C hd h
    · rw [if_neg c4] at h
      refine V_icmp_geF C 38 dX7_step_8 (by decide) c4 ?_
      refine V_aload_n C 0 dX7_step_11 rfl rfl ?_
      refine V_aload_n C 0 dX7_step_12 rfl rfl ?_
      refine fg7_25 C oX_11 dX7_step_13 ?_
      obtain ⟨x16, h16, h⟩ := Option.bind_eq_some_iff.mp h
      refine V_callVi (As := [.int (σ.1 11 4)]) C (X7_byteAt_ok h16) mw_X7_byteAt.1 mw_X7_byteAt.2.1 mw_X7_byteAt.2.2 q7_31 oX_11.1 oX_11.2.1 (by decide) rfl rfl (by omega) rfl rfl rfl (Nat.le_of_ble_eq_true rfl) dX7_step_16 ?_
      obtain ⟨x19, h19, h⟩ := Option.bind_eq_some_iff.mp h
      refine V_callSi (As := [.int x16]) C (X7_isBlank_ok h19) mw_X7_isBlank.1 mw_X7_isBlank.2 q7_35 (by omega) rfl rfl rfl (Nat.le_of_ble_eq_true rfl) dX7_step_19 ?_
      by_cases c5 : x19 = 0
      · rw [if_pos c5] at h
        refine V_if_eqT C 38 dX7_step_22 (by decide) c5 ?_
        exact X7_step_b38_ok C hd h
      · rw [if_neg c5] at h
        refine V_if_eqF C 38 dX7_step_22 (by decide) c5 ?_
        refine V_aload_n C 0 dX7_step_25 rfl rfl ?_
        refine V_dup C dX7_step_26 rfl ?_
        refine fg7_25 C oX_11 dX7_step_27 ?_
        refine V_iconst C (w := 1) dX7_step_30 (by decide) ?_
        refine V_iadd C dX7_step_31 ?_
        refine fp7_25 C oX_11 dX7_step_32 ?_
        refine V_goto C 0 dX7_step_35 (by decide) ?_
        exact ih h
def X7_step (σ : St) : Option St := X7_step_b0 FU σ
set_option maxRecDepth 100000 in
set_option maxHeartbeats 4000000 in
theorem X7_step_ok {σ : St} {x : St} (h : X7_step σ = some x) : Ct shX (9) yX7_step cX7_step 1 none (fun G => [.ref (G.2.1 11)]) σ (fun G => none) x := by
  refine Ct.of mw_X7_step.1 (by decide +kernel) (fun G => Nat.le_of_ble_eq_true rfl) (fun G p l e d s m args below meth c A hd C => ?_)
  refine (?_ : Vw shX G p l e d s m args below meth c 1 A σ 0 [(0, .ref (G.2.1 11))] [] (none) x)
  unfold X7_step at h
  exact X7_step_b0_ok C hd FU h
def X7_rewind (σ : St) : Option St := (X7_step (up σ 11 4 0)).bind (fun x6 => some x6)
set_option maxRecDepth 100000 in
set_option maxHeartbeats 4000000 in
theorem X7_rewind_ok {σ : St} {x : St} (h : X7_rewind σ = some x) : Ct shX (10) yX7_rewind cX7_rewind 1 none (fun G => [.ref (G.2.1 11)]) σ (fun G => none) x := by
  refine Ct.of mw_X7_rewind.1 (by decide +kernel) (fun G => Nat.le_of_ble_eq_true rfl) (fun G p l e d s m args below meth c A hd C => ?_)
  refine (?_ : Vw shX G p l e d s m args below meth c 1 A σ 0 [(0, .ref (G.2.1 11))] [] (none) x)
  unfold X7_rewind at h
  refine V_aload_n C 0 dX7_rewind_0 rfl rfl ?_
  refine V_iconst C (w := 0) dX7_rewind_1 (by decide) ?_
  refine fp7_25 C oX_11 dX7_rewind_2 ?_
  refine V_aload_n C 0 dX7_rewind_5 rfl rfl ?_
  obtain ⟨x6, h6, h⟩ := Option.bind_eq_some_iff.mp h
  refine V_callVv (As := []) C (X7_step_ok h6) mw_X7_step.1 mw_X7_step.2.1 mw_X7_step.2.2 q7_28 oX_11.1 oX_11.2.1 (by decide) rfl rfl (by omega) rfl rfl rfl (Nat.le_of_ble_eq_true rfl) dX7_rewind_6 ?_
  obtain rfl := Option.some.inj h
  exact V_vret C rfl dX7_rewind_9
def X8_beginPart (l1 : Int32) (σ : St) : Option St := (X8_isFull σ).bind (fun x1 => if x1 = 0 then (if l1 = (-17) then (if ob (σ.1 13 5) 6 then none else (if ob (σ.1 13 5) 6 then none else (some (up σ 21 ((σ.1 13 5)).toNatClampNeg (σ.1 23 ((σ.1 13 5)).toNatClampNeg))))) else (if l1 = (-18) then (if ob (σ.1 13 5) 6 then none else (if ob (σ.1 13 5) 6 then none else (some (up σ 22 ((σ.1 13 5)).toNatClampNeg (σ.1 23 ((σ.1 13 5)).toNatClampNeg))))) else (some σ))) else (some σ))
set_option maxRecDepth 100000 in
set_option maxHeartbeats 4000000 in
theorem X8_beginPart_ok {l1 : Int32} {σ : St} {x : St} (h : X8_beginPart l1 σ = some x) : Ct shX (2) yX8_beginPart cX8_beginPart 2 none (fun G => [.ref (G.2.1 13), .int l1]) σ (fun G => none) x := by
  refine Ct.of mw_X8_beginPart.1 (by decide +kernel) (fun G => Nat.le_of_ble_eq_true rfl) (fun G p l e d s m args below meth c A hd C => ?_)
  refine (?_ : Vw shX G p l e d s m args below meth c 2 A σ 0 [(0, .ref (G.2.1 13)), (1, .int l1)] [] (none) x)
  unfold X8_beginPart at h
  refine V_aload_n C 0 dX8_beginPart_0 rfl rfl ?_
  obtain ⟨x1, h1, h⟩ := Option.bind_eq_some_iff.mp h
  refine V_callVi (As := []) C (X8_isFull_ok h1) mw_X8_isFull.1 mw_X8_isFull.2.1 mw_X8_isFull.2.2 q8_33 oX_13.1 oX_13.2.1 (by decide) rfl rfl (by omega) rfl rfl rfl (Nat.le_of_ble_eq_true rfl) dX8_beginPart_1 ?_
  by_cases c1 : x1 = 0
  · rw [if_pos c1] at h
    refine V_if_eqT C 8 dX8_beginPart_4 (by decide) c1 ?_
    refine V_iload_n C 1 dX8_beginPart_8 rfl rfl ?_
    refine V_bipush C (w := (-17)) dX8_beginPart_9 (by decide) ?_
    by_cases c2 : l1 = (-17)
    · rw [if_pos c2] at h
      refine V_icmp_neF C 35 dX8_beginPart_11 (by decide) c2 ?_
      refine V_aload_n C 0 dX8_beginPart_14 rfl rfl ?_
      refine fg8_16 (r := 21) C oX_13 rfl dX8_beginPart_15 ?_
      refine V_aload_n C 0 dX8_beginPart_18 rfl rfl ?_
      refine fg8_29 C oX_13 dX8_beginPart_19 ?_
      refine V_aload_n C 0 dX8_beginPart_22 rfl rfl ?_
      refine fg8_23 (r := 23) C oX_13 rfl dX8_beginPart_23 ?_
      refine V_aload_n C 0 dX8_beginPart_26 rfl rfl ?_
      refine fg8_29 C oX_13 dX8_beginPart_27 ?_
      have g6 : ¬ (ob (σ.1 13 5) 6) := fun g9 => by rw [if_pos g9] at h; cases h
      rw [if_neg g6] at h
      refine V_ialdO C oX_23 g6 dX8_beginPart_30 ?_
      have g7 : ¬ (ob (σ.1 13 5) 6) := fun g9 => by rw [if_pos g9] at h; cases h
      rw [if_neg g7] at h
      refine V_iastO C oX_21 g7 dX8_beginPart_31 ?_
      refine V_goto C 59 dX8_beginPart_32 (by decide) ?_
      obtain rfl := Option.some.inj h
      exact V_vret C rfl dX8_beginPart_59
    · rw [if_neg c2] at h
      refine V_icmp_neT C 35 dX8_beginPart_11 (by decide) c2 ?_
      refine V_iload_n C 1 dX8_beginPart_35 rfl rfl ?_
      refine V_bipush C (w := (-18)) dX8_beginPart_36 (by decide) ?_
      by_cases c3 : l1 = (-18)
      · rw [if_pos c3] at h
        refine V_icmp_neF C 59 dX8_beginPart_38 (by decide) c3 ?_
        refine V_aload_n C 0 dX8_beginPart_41 rfl rfl ?_
        refine fg8_20 (r := 22) C oX_13 rfl dX8_beginPart_42 ?_
        refine V_aload_n C 0 dX8_beginPart_45 rfl rfl ?_
        refine fg8_29 C oX_13 dX8_beginPart_46 ?_
        refine V_aload_n C 0 dX8_beginPart_49 rfl rfl ?_
        refine fg8_23 (r := 23) C oX_13 rfl dX8_beginPart_50 ?_
        refine V_aload_n C 0 dX8_beginPart_53 rfl rfl ?_
        refine fg8_29 C oX_13 dX8_beginPart_54 ?_
        have g4 : ¬ (ob (σ.1 13 5) 6) := fun g9 => by rw [if_pos g9] at h; cases h
        rw [if_neg g4] at h
        refine V_ialdO C oX_23 g4 dX8_beginPart_57 ?_
        have g5 : ¬ (ob (σ.1 13 5) 6) := fun g9 => by rw [if_pos g9] at h; cases h
        rw [if_neg g5] at h
        refine V_iastO C oX_22 g5 dX8_beginPart_58 ?_
        obtain rfl := Option.some.inj h
        exact V_vret C rfl dX8_beginPart_59
      · rw [if_neg c3] at h
        refine V_icmp_neT C 59 dX8_beginPart_38 (by decide) c3 ?_
        obtain rfl := Option.some.inj h
        exact V_vret C rfl dX8_beginPart_59
  · rw [if_neg c1] at h
    refine V_if_eqF C 8 dX8_beginPart_4 (by decide) c1 ?_
    obtain rfl := Option.some.inj h
    exact V_vret C rfl dX8_beginPart_7
def X2_readToken (l1 : Int32) (σ : St) : Option (Int32 × St) := if (σ.1 11 2) = l1 then ((X7_step σ).bind (fun x17 => some (1, x17))) else (some (0, σ))
set_option maxRecDepth 100000 in
set_option maxHeartbeats 4000000 in
theorem X2_readToken_ok {l1 : Int32} {σ : St} {x : (Int32 × St)} (h : X2_readToken l1 σ = some x) : Ct shX (10) yX2_readToken cX2_readToken 2 (some FieldType.boolean) (fun G => [.ref (G.2.1 25), .int l1]) σ (fun G => some (.int x.1)) x.2 := by
  refine Ct.of mw_X2_readToken.1 (by decide +kernel) (fun G => Nat.le_of_ble_eq_true rfl) (fun G p l e d s m args below meth c A hd C => ?_)
  refine (?_ : Vw shX G p l e d s m args below meth c 2 A σ 0 [(0, .ref (G.2.1 25)), (1, .int l1)] [] (some (.int x.1)) x.2)
  unfold X2_readToken at h
  refine V_aload_n C 0 dX2_readToken_0 rfl rfl ?_
  refine fg2_9 (r := 11) C oX_25 rfl dX2_readToken_1 ?_
  refine fg2_33 C oX_11 dX2_readToken_4 ?_
  refine V_iload_n C 1 dX2_readToken_7 rfl rfl ?_
  by_cases c1 : (σ.1 11 2) = l1
  · rw [if_pos c1] at h
    refine V_icmp_eqT C 13 dX2_readToken_8 (by decide) c1 ?_
    refine V_aload_n C 0 dX2_readToken_13 rfl rfl ?_
    refine fg2_9 (r := 11) C oX_25 rfl dX2_readToken_14 ?_
    obtain ⟨x17, h17, h⟩ := Option.bind_eq_some_iff.mp h
    refine V_callVv (As := []) C (X7_step_ok h17) mw_X7_step.1 mw_X7_step.2.1 mw_X7_step.2.2 q2_57 oX_11.1 oX_11.2.1 (by decide) rfl rfl (by omega) rfl rfl rfl (Nat.le_of_ble_eq_true rfl) dX2_readToken_17 ?_
    refine V_iconst C (w := 1) dX2_readToken_20 (by decide) ?_
    obtain rfl := Option.some.inj h
    exact V_iret C rfl (nz (Or.inr rfl)) dX2_readToken_21
  · rw [if_neg c1] at h
    refine V_icmp_eqF C 13 dX2_readToken_8 (by decide) c1 ?_
    refine V_iconst C (w := 0) dX2_readToken_11 (by decide) ?_
    obtain rfl := Option.some.inj h
    exact V_iret C rfl (nz (Or.inl rfl)) dX2_readToken_12
def X8_write (l1 : Int32) (σ : St) : Option (Int32 × St) := (X8_isFull σ).bind (fun x1 => if x1 = 0 then (if ob (σ.1 13 5) 6 then none else (if (σ.1 23 ((σ.1 13 5)).toNatClampNeg) < 0 then (some (0, σ)) else (if ob (σ.1 13 5) 6 then none else (if (σ.1 23 ((σ.1 13 5)).toNatClampNeg) < 160 then (if ob (σ.1 13 5) 6 then none else (if ob (σ.1 13 5) 6 then none else (if isA shX (rfX 14 ((σ.1 13 5)).toNatClampNeg) 20 then (if ob (σ.1 23 ((σ.1 13 5)).toNatClampNeg) (lnX (rfX 14 ((σ.1 13 5)).toNatClampNeg)) then none else (if ob ((up σ (rfX 14 ((σ.1 13 5)).toNatClampNeg) ((σ.1 23 ((σ.1 13 5)).toNatClampNeg)).toNatClampNeg l1).1 13 5) 6 then none else (if ob ((up σ (rfX 14 ((σ.1 13 5)).toNatClampNeg) ((σ.1 23 ((σ.1 13 5)).toNatClampNeg)).toNatClampNeg l1).1 13 5) 6 then none else (some (1, (up (up σ (rfX 14 ((σ.1 13 5)).toNatClampNeg) ((σ.1 23 ((σ.1 13 5)).toNatClampNeg)).toNatClampNeg l1) 23 (((up σ (rfX 14 ((σ.1 13 5)).toNatClampNeg) ((σ.1 23 ((σ.1 13 5)).toNatClampNeg)).toNatClampNeg l1).1 13 5)).toNatClampNeg (((up σ (rfX 14 ((σ.1 13 5)).toNatClampNeg) ((σ.1 23 ((σ.1 13 5)).toNatClampNeg)).toNatClampNeg l1).1 23 (((up σ (rfX 14 ((σ.1 13 5)).toNatClampNeg) ((σ.1 23 ((σ.1 13 5)).toNatClampNeg)).toNatClampNeg l1).1 13 5)).toNatClampNeg) + 1))))))) else none))) else (some (0, σ)))))) else (some (0, σ)))
set_option maxRecDepth 100000 in
set_option maxHeartbeats 4000000 in
theorem X8_write_ok {l1 : Int32} {σ : St} {x : (Int32 × St)} (h : X8_write l1 σ = some x) : Ct shX (2) yX8_write cX8_write 2 (some FieldType.boolean) (fun G => [.ref (G.2.1 13), .int l1]) σ (fun G => some (.int x.1)) x.2 := by
  refine Ct.of mw_X8_write.1 (by decide +kernel) (fun G => Nat.le_of_ble_eq_true rfl) (fun G p l e d s m args below meth c A hd C => ?_)
  refine (?_ : Vw shX G p l e d s m args below meth c 2 A σ 0 [(0, .ref (G.2.1 13)), (1, .int l1)] [] (some (.int x.1)) x.2)
  unfold X8_write at h
  refine V_aload_n C 0 dX8_write_0 rfl rfl ?_
  obtain ⟨x1, h1, h⟩ := Option.bind_eq_some_iff.mp h
  refine V_callVi (As := []) C (X8_isFull_ok h1) mw_X8_isFull.1 mw_X8_isFull.2.1 mw_X8_isFull.2.2 q8_33 oX_13.1 oX_13.2.1 (by decide) rfl rfl (by omega) rfl rfl rfl (Nat.le_of_ble_eq_true rfl) dX8_write_1 ?_
  by_cases c1 : x1 = 0
  · rw [if_pos c1] at h
    refine V_if_neF C 34 dX8_write_4 (by decide) c1 ?_
    refine V_aload_n C 0 dX8_write_7 rfl rfl ?_
    refine fg8_23 (r := 23) C oX_13 rfl dX8_write_8 ?_
    refine V_aload_n C 0 dX8_write_11 rfl rfl ?_
    refine fg8_29 C oX_13 dX8_write_12 ?_
    have g2 : ¬ (ob (σ.1 13 5) 6) := fun g9 => by rw [if_pos g9] at h; cases h
    rw [if_neg g2] at h
    refine V_ialdO C oX_23 g2 dX8_write_15 ?_
    by_cases c3 : (σ.1 23 ((σ.1 13 5)).toNatClampNeg) < 0
    · rw [if_pos c3] at h
      refine V_if_ltT C 34 dX8_write_16 (by decide) c3 ?_
      refine V_iconst C (w := 0) dX8_write_34 (by decide) ?_
      obtain rfl := Option.some.inj h
      exact V_iret C rfl (nz (Or.inl rfl)) dX8_write_35
    · rw [if_neg c3] at h
      refine V_if_ltF C 34 dX8_write_16 (by decide) c3 ?_
      refine V_aload_n C 0 dX8_write_19 rfl rfl ?_
      refine fg8_23 (r := 23) C oX_13 rfl dX8_write_20 ?_
      refine V_aload_n C 0 dX8_write_23 rfl rfl ?_
      refine fg8_29 C oX_13 dX8_write_24 ?_
      have g4 : ¬ (ob (σ.1 13 5) 6) := fun g9 => by rw [if_pos g9] at h; cases h
      rw [if_neg g4] at h
      refine V_ialdO C oX_23 g4 dX8_write_27 ?_
      refine V_sipush C (w := 160) dX8_write_28 (by decide) ?_
      by_cases c5 : (σ.1 23 ((σ.1 13 5)).toNatClampNeg) < 160
      · rw [if_pos c5] at h
        refine V_icmp_ltT C 36 dX8_write_31 (by decide) c5 ?_
        refine V_aload_n C 0 dX8_write_36 rfl rfl ?_
        refine fg8_11 (r := 14) C oX_13 rfl dX8_write_37 ?_
        refine V_aload_n C 0 dX8_write_40 rfl rfl ?_
        refine fg8_29 C oX_13 dX8_write_41 ?_
        have g6 : ¬ (ob (σ.1 13 5) 6) := fun g9 => by rw [if_pos g9] at h; cases h
        rw [if_neg g6] at h
        refine V_aald2O C oX_14 g6 dX8_write_44 ?_
        refine V_aload_n C 0 dX8_write_45 rfl rfl ?_
        refine fg8_23 (r := 23) C oX_13 rfl dX8_write_46 ?_
        refine V_aload_n C 0 dX8_write_49 rfl rfl ?_
        refine fg8_29 C oX_13 dX8_write_50 ?_
        have g7 : ¬ (ob (σ.1 13 5) 6) := fun g9 => by rw [if_pos g9] at h; cases h
        rw [if_neg g7] at h
        refine V_ialdO C oX_23 g7 dX8_write_53 ?_
        refine V_iload_n C 1 dX8_write_54 rfl rfl ?_
        have g8 : isA shX (rfX 14 ((σ.1 13 5)).toNatClampNeg) 20 := Decidable.byContradiction (fun g9 => by rw [if_neg g9] at h; cases h)
        rw [if_pos g8] at h
        have g9 : ¬ (ob (σ.1 23 ((σ.1 13 5)).toNatClampNeg) (lnX (rfX 14 ((σ.1 13 5)).toNatClampNeg))) := fun g9 => by rw [if_pos g9] at h; cases h
        rw [if_neg g9] at h
        refine V_iastA C g8 g9 dX8_write_55 ?_
        refine V_aload_n C 0 dX8_write_56 rfl rfl ?_
        refine fg8_23 (r := 23) C oX_13 rfl dX8_write_57 ?_
        refine V_aload_n C 0 dX8_write_60 rfl rfl ?_
        refine fg8_29 C oX_13 dX8_write_61 ?_
        refine V_dup2 C dX8_write_64 rfl rfl ?_
        have g10 : ¬ (ob ((up σ (rfX 14 ((σ.1 13 5)).toNatClampNeg) ((σ.1 23 ((σ.1 13 5)).toNatClampNeg)).toNatClampNeg l1).1 13 5) 6) := fun g9 => by rw [if_pos g9] at h; cases h
        rw [if_neg g10] at h
        refine V_ialdO C oX_23 g10 dX8_write_65 ?_
        refine V_iconst C (w := 1) dX8_write_66 (by decide) ?_
        refine V_iadd C dX8_write_67 ?_
        have g11 : ¬ (ob ((up σ (rfX 14 ((σ.1 13 5)).toNatClampNeg) ((σ.1 23 ((σ.1 13 5)).toNatClampNeg)).toNatClampNeg l1).1 13 5) 6) := fun g9 => by rw [if_pos g9] at h; cases h
        rw [if_neg g11] at h
        refine V_iastO C oX_23 g11 dX8_write_68 ?_
        refine V_iconst C (w := 1) dX8_write_69 (by decide) ?_
        obtain rfl := Option.some.inj h
        exact V_iret C rfl (nz (Or.inr rfl)) dX8_write_70
      · rw [if_neg c5] at h
        refine V_icmp_ltF C 36 dX8_write_31 (by decide) c5 ?_
        refine V_iconst C (w := 0) dX8_write_34 (by decide) ?_
        obtain rfl := Option.some.inj h
        exact V_iret C rfl (nz (Or.inl rfl)) dX8_write_35
  · rw [if_neg c1] at h
    refine V_if_neT C 34 dX8_write_4 (by decide) c1 ?_
    refine V_iconst C (w := 0) dX8_write_34 (by decide) ?_
    obtain rfl := Option.some.inj h
    exact V_iret C rfl (nz (Or.inl rfl)) dX8_write_35
def X2_readOne_b42 (rec : Nat → Int32 → St → Option (Int32 × St)) (l1 : Int32) (l2 : Int32) (σ : St) : Option (Int32 × St) := if l1 < 5 then ((X7_step σ).bind (fun x53 => if l2 = (-13) then ((rec 0 (l1 + 1) x53).bind (fun x66 => if x66.1 = 0 then (some (0, x66.2)) else ((X8_write (-15) x66.2).bind (fun x78 => if x78.1 = 0 then (some (0, x78.2)) else (some (1, x78.2)))))) else ((rec 1 (l1 + 1) x53).bind (fun x96 => if x96.1 = 0 then (some (0, x96.2)) else ((X2_readToken (-20) x96.2).bind (fun x105 => if x105.1 = 0 then (some (0, x105.2)) else (some (1, x105.2)))))))) else (some (0, σ))
set_option maxRecDepth 100000 in
set_option maxHeartbeats 4000000 in
theorem X2_readOne_b42_ok {G : Gx} {p : Program} {l : Launch} {e : Env} {d : Nat} {s : State} {m : MethodId} {args : Array Value} {below : List Frame} {meth : Method} {c : Code} {A : Nat → Prop} {hr : Nat} {rec : Nat → Int32 → St → Option (Int32 × St)} (C : OK shX G p s m args meth c RX2 cX2_readOne 3 (some FieldType.boolean) A) (hd : hr + 1 ≤ d) (hH : 11 ≤ hr) (hrec0 : ∀  {l1 : Int32} {σ : St} {x : (Int32 × St)}, rec 0 l1 σ = some x → Ct shX hr yX2_readOne cX2_readOne 3 (some FieldType.boolean) (fun G => [.ref (G.2.1 25), .int l1]) σ (fun G => some (.int x.1)) x.2) (hrec1 : ∀  {l1 : Int32} {σ : St} {x : (Int32 × St)}, rec 1 l1 σ = some x → Ct shX hr yX2_readOr cX2_readOr 3 (some FieldType.boolean) (fun G => [.ref (G.2.1 25), .int l1]) σ (fun G => some (.int x.1)) x.2) (hrec2 : ∀  {l1 : Int32} {σ : St} {x : (Int32 × St)}, rec 2 l1 σ = some x → Ct shX hr yX2_readNot cX2_readNot 3 (some FieldType.boolean) (fun G => [.ref (G.2.1 25), .int l1]) σ (fun G => some (.int x.1)) x.2) {l1 : Int32} {l2 : Int32} {σ : St} {x : (Int32 × St)} (h : X2_readOne_b42 rec l1 l2 σ = some x) : Vw shX G p l e d s m args below meth c 3 A σ 42 [(0, .ref (G.2.1 25)), (1, .int l1), (2, .int l2)] [] (some (.int x.1)) x.2 := by
  unfold X2_readOne_b42 at h
  refine V_iload_n C 1 dX2_readOne_42 rfl rfl ?_
  refine V_iconst C (w := 5) dX2_readOne_43 (by decide) ?_
  by_cases c1 : l1 < 5
  · rw [if_pos c1] at h
    refine V_icmp_ltT C 49 dX2_readOne_44 (by decide) c1 ?_
    refine V_aload_n C 0 dX2_readOne_49 rfl rfl ?_
    refine fg2_9 (r := 11) C oX_25 rfl dX2_readOne_50 ?_
    obtain ⟨x53, h53, h⟩ := Option.bind_eq_some_iff.mp h
    refine V_callVv (As := []) C (X7_step_ok h53) mw_X7_step.1 mw_X7_step.2.1 mw_X7_step.2.2 q2_57 oX_11.1 oX_11.2.1 (by decide) rfl rfl (by omega) rfl rfl rfl (Nat.le_of_ble_eq_true rfl) dX2_readOne_53 ?_
    refine V_iload_n C 2 dX2_readOne_56 rfl rfl ?_
    refine V_bipush C (w := (-13)) dX2_readOne_57 (by decide) ?_
    by_cases c2 : l2 = (-13)
    · rw [if_pos c2] at h
      refine V_icmp_neF C 92 dX2_readOne_59 (by decide) c2 ?_
      refine V_aload_n C 0 dX2_readOne_62 rfl rfl ?_
      refine V_iload_n C 1 dX2_readOne_63 rfl rfl ?_
      refine V_iconst C (w := 1) dX2_readOne_64 (by decide) ?_
      refine V_iadd C dX2_readOne_65 ?_
      obtain ⟨x66, h66, h⟩ := Option.bind_eq_some_iff.mp h
      refine V_callVi (As := [.int (l1 + 1)]) C (hrec0 h66) mw_X2_readOne.1 mw_X2_readOne.2.1 mw_X2_readOne.2.2 q2_75 oX_25.1 oX_25.2.1 (by decide) rfl rfl (by omega) rfl rfl rfl (Nat.le_of_ble_eq_true rfl) dX2_readOne_66 ?_
      by_cases c5 : x66.1 = 0
      · rw [if_pos c5] at h
        refine V_if_eqT C 88 dX2_readOne_69 (by decide) c5 ?_
        refine V_iconst C (w := 0) dX2_readOne_88 (by decide) ?_
        refine V_goto C 116 dX2_readOne_89 (by decide) ?_
        obtain rfl := Option.some.inj h
        exact V_iret C rfl (nz (Or.inl rfl)) dX2_readOne_116
      · rw [if_neg c5] at h
        refine V_if_eqF C 88 dX2_readOne_69 (by decide) c5 ?_
        refine V_aload_n C 0 dX2_readOne_72 rfl rfl ?_
        refine fg2_15 (r := 13) C oX_25 rfl dX2_readOne_73 ?_
        refine V_bipush C (w := (-15)) dX2_readOne_76 (by decide) ?_
        obtain ⟨x78, h78, h⟩ := Option.bind_eq_some_iff.mp h
        refine V_callVi (As := [.int (-15)]) C (X8_write_ok h78) mw_X8_write.1 mw_X8_write.2.1 mw_X8_write.2.2 q2_63 oX_13.1 oX_13.2.1 (by decide) rfl rfl (by omega) rfl rfl rfl (Nat.le_of_ble_eq_true rfl) dX2_readOne_78 ?_
        by_cases c6 : x78.1 = 0
        · rw [if_pos c6] at h
          refine V_if_eqT C 88 dX2_readOne_81 (by decide) c6 ?_
          refine V_iconst C (w := 0) dX2_readOne_88 (by decide) ?_
          refine V_goto C 116 dX2_readOne_89 (by decide) ?_
          obtain rfl := Option.some.inj h
          exact V_iret C rfl (nz (Or.inl rfl)) dX2_readOne_116
        · rw [if_neg c6] at h
          refine V_if_eqF C 88 dX2_readOne_81 (by decide) c6 ?_
          refine V_iconst C (w := 1) dX2_readOne_84 (by decide) ?_
          refine V_goto C 116 dX2_readOne_85 (by decide) ?_
          obtain rfl := Option.some.inj h
          exact V_iret C rfl (nz (Or.inr rfl)) dX2_readOne_116
    · rw [if_neg c2] at h
      refine V_icmp_neT C 92 dX2_readOne_59 (by decide) c2 ?_
      refine V_aload_n C 0 dX2_readOne_92 rfl rfl ?_
      refine V_iload_n C 1 dX2_readOne_93 rfl rfl ?_
      refine V_iconst C (w := 1) dX2_readOne_94 (by decide) ?_
      refine V_iadd C dX2_readOne_95 ?_
      obtain ⟨x96, h96, h⟩ := Option.bind_eq_some_iff.mp h
      refine V_callVi (As := [.int (l1 + 1)]) C (hrec1 h96) mw_X2_readOr.1 mw_X2_readOr.2.1 mw_X2_readOr.2.2 q2_54 oX_25.1 oX_25.2.1 (by decide) rfl rfl (by omega) rfl rfl rfl (Nat.le_of_ble_eq_true rfl) dX2_readOne_96 ?_
      by_cases c3 : x96.1 = 0
      · rw [if_pos c3] at h
        refine V_if_eqT C 115 dX2_readOne_99 (by decide) c3 ?_
        refine V_iconst C (w := 0) dX2_readOne_115 (by decide) ?_
        obtain rfl := Option.some.inj h
        exact V_iret C rfl (nz (Or.inl rfl)) dX2_readOne_116
      · rw [if_neg c3] at h
        refine V_if_eqF C 115 dX2_readOne_99 (by decide) c3 ?_
        refine V_aload_n C 0 dX2_readOne_102 rfl rfl ?_
        refine V_bipush C (w := (-20)) dX2_readOne_103 (by decide) ?_
        obtain ⟨x105, h105, h⟩ := Option.bind_eq_some_iff.mp h
        refine V_callVi (As := [.int (-20)]) C (X2_readToken_ok h105) mw_X2_readToken.1 mw_X2_readToken.2.1 mw_X2_readToken.2.2 q2_51 oX_25.1 oX_25.2.1 (by decide) rfl rfl (by omega) rfl rfl rfl (Nat.le_of_ble_eq_true rfl) dX2_readOne_105 ?_
        by_cases c4 : x105.1 = 0
        · rw [if_pos c4] at h
          refine V_if_eqT C 115 dX2_readOne_108 (by decide) c4 ?_
          refine V_iconst C (w := 0) dX2_readOne_115 (by decide) ?_
          obtain rfl := Option.some.inj h
          exact V_iret C rfl (nz (Or.inl rfl)) dX2_readOne_116
        · rw [if_neg c4] at h
          refine V_if_eqF C 115 dX2_readOne_108 (by decide) c4 ?_
          refine V_iconst C (w := 1) dX2_readOne_111 (by decide) ?_
          refine V_goto C 116 dX2_readOne_112 (by decide) ?_
          obtain rfl := Option.some.inj h
          exact V_iret C rfl (nz (Or.inr rfl)) dX2_readOne_116
  · rw [if_neg c1] at h
    refine V_icmp_ltF C 49 dX2_readOne_44 (by decide) c1 ?_
    refine V_iconst C (w := 0) dX2_readOne_47 (by decide) ?_
    obtain rfl := Option.some.inj h
    exact V_iret C rfl (nz (Or.inl rfl)) dX2_readOne_48
def X2_readOne (rec : Nat → Int32 → St → Option (Int32 × St)) (l1 : Int32) (σ : St) : Option (Int32 × St) := if (σ.1 11 2) ≤ (-7) then (if (σ.1 11 2) = (-13) then (X2_readOne_b42 rec l1 (σ.1 11 2) σ) else (if (σ.1 11 2) = (-19) then (X2_readOne_b42 rec l1 (σ.1 11 2) σ) else (some (0, σ)))) else ((X7_step σ).bind (fun x18 => (X8_write (σ.1 11 2) x18).bind (fun x26 => if x26.1 = 0 ∨ x26.1 = 1 then (some (x26.1, x26.2)) else none)))
set_option maxRecDepth 100000 in
set_option maxHeartbeats 4000000 in
theorem X2_readOne_ok {hr : Nat} {rec : Nat → Int32 → St → Option (Int32 × St)} (hH : 11 ≤ hr) (hrec0 : ∀  {l1 : Int32} {σ : St} {x : (Int32 × St)}, rec 0 l1 σ = some x → Ct shX hr yX2_readOne cX2_readOne 3 (some FieldType.boolean) (fun G => [.ref (G.2.1 25), .int l1]) σ (fun G => some (.int x.1)) x.2) (hrec1 : ∀  {l1 : Int32} {σ : St} {x : (Int32 × St)}, rec 1 l1 σ = some x → Ct shX hr yX2_readOr cX2_readOr 3 (some FieldType.boolean) (fun G => [.ref (G.2.1 25), .int l1]) σ (fun G => some (.int x.1)) x.2) (hrec2 : ∀  {l1 : Int32} {σ : St} {x : (Int32 × St)}, rec 2 l1 σ = some x → Ct shX hr yX2_readNot cX2_readNot 3 (some FieldType.boolean) (fun G => [.ref (G.2.1 25), .int l1]) σ (fun G => some (.int x.1)) x.2) {l1 : Int32} {σ : St} {x : (Int32 × St)} (h : X2_readOne rec l1 σ = some x) : Ct shX (hr + 1) yX2_readOne cX2_readOne 3 (some FieldType.boolean) (fun G => [.ref (G.2.1 25), .int l1]) σ (fun G => some (.int x.1)) x.2 := by
  refine Ct.of mw_X2_readOne.1 (by decide +kernel) (fun G => Nat.le_of_ble_eq_true rfl) (fun G p l e d s m args below meth c A hd C => ?_)
  refine (?_ : Vw shX G p l e d s m args below meth c 3 A σ 0 [(0, .ref (G.2.1 25)), (1, .int l1)] [] (some (.int x.1)) x.2)
  unfold X2_readOne at h
  refine V_aload_n C 0 dX2_readOne_0 rfl rfl ?_
  refine fg2_9 (r := 11) C oX_25 rfl dX2_readOne_1 ?_
  refine fg2_33 C oX_11 dX2_readOne_4 ?_
  refine V_istore_n C (lv' := [(2, .int (σ.1 11 2)), (0, .ref (G.2.1 25)), (1, .int l1)]) dX2_readOne_7 rfl (by decide) rfl ?_
  refine V_iload_n C 0 dX2_readOne_8 rfl rfl ?_
  refine V_bipush C (w := (-7)) dX2_readOne_9 (by decide) ?_
  by_cases c7 : (σ.1 11 2) ≤ (-7)
  · rw [if_pos c7] at h
    refine V_icmp_leT C 30 dX2_readOne_11 (by decide) c7 ?_
    refine V_iload_n C 0 dX2_readOne_30 rfl rfl ?_
    refine V_bipush C (w := (-13)) dX2_readOne_31 (by decide) ?_
    by_cases c8 : (σ.1 11 2) = (-13)
    · rw [if_pos c8] at h
      refine V_icmp_eqT C 42 dX2_readOne_33 (by decide) c8 ?_
      refine V_sub (lv' := [(0, .ref (G.2.1 25)), (1, .int l1), (2, .int (σ.1 11 2))]) [1, 2, 0] rfl ?_
      exact X2_readOne_b42_ok C hd hH hrec0 hrec1 hrec2 h
    · rw [if_neg c8] at h
      refine V_icmp_eqF C 42 dX2_readOne_33 (by decide) c8 ?_
      refine V_iload_n C 0 dX2_readOne_36 rfl rfl ?_
      refine V_bipush C (w := (-19)) dX2_readOne_37 (by decide) ?_
      by_cases c9 : (σ.1 11 2) = (-19)
      · rw [if_pos c9] at h
        refine V_icmp_neF C 47 dX2_readOne_39 (by decide) c9 ?_
        refine V_sub (lv' := [(0, .ref (G.2.1 25)), (1, .int l1), (2, .int (σ.1 11 2))]) [1, 2, 0] rfl ?_
        exact X2_readOne_b42_ok C hd hH hrec0 hrec1 hrec2 h
      · rw [if_neg c9] at h
        refine V_icmp_neT C 47 dX2_readOne_39 (by decide) c9 ?_
        refine V_iconst C (w := 0) dX2_readOne_47 (by decide) ?_
        obtain rfl := Option.some.inj h
        exact V_iret C rfl (nz (Or.inl rfl)) dX2_readOne_48
  · rw [if_neg c7] at h
    refine V_icmp_leF C 30 dX2_readOne_11 (by decide) c7 ?_
    refine V_aload_n C 1 dX2_readOne_14 rfl rfl ?_
    refine fg2_9 (r := 11) C oX_25 rfl dX2_readOne_15 ?_
    obtain ⟨x18, h18, h⟩ := Option.bind_eq_some_iff.mp h
    refine V_callVv (As := []) C (X7_step_ok h18) mw_X7_step.1 mw_X7_step.2.1 mw_X7_step.2.2 q2_57 oX_11.1 oX_11.2.1 (by decide) rfl rfl (by omega) rfl rfl rfl (Nat.le_of_ble_eq_true rfl) dX2_readOne_18 ?_
    refine V_aload_n C 1 dX2_readOne_21 rfl rfl ?_
    refine fg2_15 (r := 13) C oX_25 rfl dX2_readOne_22 ?_
    refine V_iload_n C 0 dX2_readOne_25 rfl rfl ?_
    obtain ⟨x26, h26, h⟩ := Option.bind_eq_some_iff.mp h
    refine V_callVi (As := [.int (σ.1 11 2)]) C (X8_write_ok h26) mw_X8_write.1 mw_X8_write.2.1 mw_X8_write.2.2 q2_63 oX_13.1 oX_13.2.1 (by decide) rfl rfl (by omega) rfl rfl rfl (Nat.le_of_ble_eq_true rfl) dX2_readOne_26 ?_
    have g10 : x26.1 = 0 ∨ x26.1 = 1 := Decidable.byContradiction (fun g9 => by rw [if_neg g9] at h; cases h)
    rw [if_pos g10] at h
    obtain rfl := Option.some.inj h
    exact V_iret C rfl (nz g10) dX2_readOne_29
def X2_readTerm_b12 (rec : Nat → Int32 → St → Option (Int32 × St)) : Nat → Int32 → Int32 → St → Option (Int32 × St)
  | 0, _, _, _ => none
  | F + 1, l1, l2, σ => if 160 ≤ l2 then (some (1, σ)) else (if (σ.1 11 2) = (-14) then ((X7_step σ).bind (fun x35 => (X2_readOne rec l1 x35).bind (fun x40 => if x40.1 = 0 then (some (0, x40.2)) else ((X8_write (-14) x40.2).bind (fun x52 => if x52.1 = 0 then (some (0, x52.2)) else (X2_readTerm_b12 rec F l1 (l2 + 1) x52.2)))))) else (some (1, σ)))
set_option maxRecDepth 100000 in
set_option maxHeartbeats 4000000 in
theorem X2_readTerm_b12_ok {G : Gx} {p : Program} {l : Launch} {e : Env} {d : Nat} {s : State} {m : MethodId} {args : Array Value} {below : List Frame} {meth : Method} {c : Code} {A : Nat → Prop} {hr : Nat} {rec : Nat → Int32 → St → Option (Int32 × St)} (C : OK shX G p s m args meth c RX2 cX2_readTerm 3 (some FieldType.boolean) A) (hd : hr + 2 ≤ d) (hH : 11 ≤ hr) (hrec0 : ∀  {l1 : Int32} {σ : St} {x : (Int32 × St)}, rec 0 l1 σ = some x → Ct shX hr yX2_readOne cX2_readOne 3 (some FieldType.boolean) (fun G => [.ref (G.2.1 25), .int l1]) σ (fun G => some (.int x.1)) x.2) (hrec1 : ∀  {l1 : Int32} {σ : St} {x : (Int32 × St)}, rec 1 l1 σ = some x → Ct shX hr yX2_readOr cX2_readOr 3 (some FieldType.boolean) (fun G => [.ref (G.2.1 25), .int l1]) σ (fun G => some (.int x.1)) x.2) (hrec2 : ∀  {l1 : Int32} {σ : St} {x : (Int32 × St)}, rec 2 l1 σ = some x → Ct shX hr yX2_readNot cX2_readNot 3 (some FieldType.boolean) (fun G => [.ref (G.2.1 25), .int l1]) σ (fun G => some (.int x.1)) x.2) : ∀ (F : Nat) {l1 : Int32} {l2 : Int32} {σ : St} {x : (Int32 × St)} (h : X2_readTerm_b12 rec F l1 l2 σ = some x), Vw shX G p l e d s m args below meth c 3 A σ 12 [(0, .ref (G.2.1 25)), (1, .int l1), (2, .int l2)] [] (some (.int x.1)) x.2 := by
  intro F
  induction F with
  | zero =>
    intro l1 l2 σ x h
    rw [X2_readTerm_b12] at h
    cases h
  | succ F ih =>
    intro l1 l2 σ x h
    rw [X2_readTerm_b12] at h
    refine V_iload_n C 2 dX2_readTerm_12 rfl rfl ?_
    refine V_sipush C (w := 160) dX2_readTerm_13 (by decide) ?_
    by_cases c1 : 160 ≤ l2
    · rw [if_pos c1] at h
      refine V_icmp_geT C 66 dX2_readTerm_16 (by decide) c1 ?_
      refine V_iconst C (w := 1) dX2_readTerm_66 (by decide) ?_
      obtain rfl := Option.some.inj h
      exact V_iret C rfl (nz (Or.inr rfl)) dX2_readTerm_67
    · rw [if_neg c1] at h
      refine V_icmp_geF C 66 dX2_readTerm_16 (by decide) c1 ?_
      refine V_aload_n C 0 dX2_readTerm_19 rfl rfl ?_
      refine fg2_9 (r := 11) C oX_25 rfl dX2_readTerm_20 ?_
      refine fg2_33 C oX_11 dX2_readTerm_23 ?_
      refine V_bipush C (w := (-14)) dX2_readTerm_26 (by decide) ?_
      by_cases c2 : (σ.1 11 2) = (-14)
      · rw [if_pos c2] at h
        refine V_icmp_neF C 66 dX2_readTerm_28 (by decide) c2 ?_
        refine V_aload_n C 0 dX2_readTerm_31 rfl rfl ?_
        refine fg2_9 (r := 11) C oX_25 rfl dX2_readTerm_32 ?_
        obtain ⟨x35, h35, h⟩ := Option.bind_eq_some_iff.mp h
        refine V_callVv (As := []) C (X7_step_ok h35) mw_X7_step.1 mw_X7_step.2.1 mw_X7_step.2.2 q2_57 oX_11.1 oX_11.2.1 (by decide) rfl rfl (by omega) rfl rfl rfl (Nat.le_of_ble_eq_true rfl) dX2_readTerm_35 ?_
        refine V_aload_n C 0 dX2_readTerm_38 rfl rfl ?_
        refine V_iload_n C 1 dX2_readTerm_39 rfl rfl ?_
        obtain ⟨x40, h40, h⟩ := Option.bind_eq_some_iff.mp h
        refine V_callVi (As := [.int l1]) C (X2_readOne_ok hH hrec0 hrec1 hrec2 h40) mw_X2_readOne.1 mw_X2_readOne.2.1 mw_X2_readOne.2.2 q2_75 oX_25.1 oX_25.2.1 (by decide) rfl rfl (by omega) rfl rfl rfl (Nat.le_of_ble_eq_true rfl) dX2_readTerm_40 ?_
        by_cases c3 : x40.1 = 0
        · rw [if_pos c3] at h
          refine V_if_eqT C 58 dX2_readTerm_43 (by decide) c3 ?_
          refine V_iconst C (w := 0) dX2_readTerm_58 (by decide) ?_
          obtain rfl := Option.some.inj h
          exact V_iret C rfl (nz (Or.inl rfl)) dX2_readTerm_59
        · rw [if_neg c3] at h
          refine V_if_eqF C 58 dX2_readTerm_43 (by decide) c3 ?_
          refine V_aload_n C 0 dX2_readTerm_46 rfl rfl ?_
          refine fg2_15 (r := 13) C oX_25 rfl dX2_readTerm_47 ?_
          refine V_bipush C (w := (-14)) dX2_readTerm_50 (by decide) ?_
          obtain ⟨x52, h52, h⟩ := Option.bind_eq_some_iff.mp h
          refine V_callVi (As := [.int (-14)]) C (X8_write_ok h52) mw_X8_write.1 mw_X8_write.2.1 mw_X8_write.2.2 q2_63 oX_13.1 oX_13.2.1 (by decide) rfl rfl (by omega) rfl rfl rfl (Nat.le_of_ble_eq_true rfl) dX2_readTerm_52 ?_
          by_cases c4 : x52.1 = 0
          · rw [if_pos c4] at h
            refine V_if_neF C 60 dX2_readTerm_55 (by decide) c4 ?_
            refine V_iconst C (w := 0) dX2_readTerm_58 (by decide) ?_
            obtain rfl := Option.some.inj h
            exact V_iret C rfl (nz (Or.inl rfl)) dX2_readTerm_59
          · rw [if_neg c4] at h
            refine V_if_neT C 60 dX2_readTerm_55 (by decide) c4 ?_
            refine V_iinc C (w := (l2 + 1)) (lv' := [(2, .int (l2 + 1)), (0, .ref (G.2.1 25)), (1, .int l1)]) 2 dX2_readTerm_60 rfl (congrArg (l2 + ·) (show Int32.ofInt 1 = 1 by decide)) (by decide) rfl ?_
            refine V_goto C 12 dX2_readTerm_63 (by decide) ?_
            refine V_sub (lv' := [(0, .ref (G.2.1 25)), (1, .int l1), (2, .int (l2 + 1))]) [1, 2, 0] rfl ?_
            exact ih h
      · rw [if_neg c2] at h
        refine V_icmp_neT C 66 dX2_readTerm_28 (by decide) c2 ?_
        refine V_iconst C (w := 1) dX2_readTerm_66 (by decide) ?_
        obtain rfl := Option.some.inj h
        exact V_iret C rfl (nz (Or.inr rfl)) dX2_readTerm_67
def X2_readTerm (rec : Nat → Int32 → St → Option (Int32 × St)) (l1 : Int32) (σ : St) : Option (Int32 × St) := (X2_readOne rec l1 σ).bind (fun x2 => if x2.1 = 0 then (some (0, x2.2)) else (X2_readTerm_b12 rec FU l1 0 x2.2))
set_option maxRecDepth 100000 in
set_option maxHeartbeats 4000000 in
theorem X2_readTerm_ok {hr : Nat} {rec : Nat → Int32 → St → Option (Int32 × St)} (hH : 11 ≤ hr) (hrec0 : ∀  {l1 : Int32} {σ : St} {x : (Int32 × St)}, rec 0 l1 σ = some x → Ct shX hr yX2_readOne cX2_readOne 3 (some FieldType.boolean) (fun G => [.ref (G.2.1 25), .int l1]) σ (fun G => some (.int x.1)) x.2) (hrec1 : ∀  {l1 : Int32} {σ : St} {x : (Int32 × St)}, rec 1 l1 σ = some x → Ct shX hr yX2_readOr cX2_readOr 3 (some FieldType.boolean) (fun G => [.ref (G.2.1 25), .int l1]) σ (fun G => some (.int x.1)) x.2) (hrec2 : ∀  {l1 : Int32} {σ : St} {x : (Int32 × St)}, rec 2 l1 σ = some x → Ct shX hr yX2_readNot cX2_readNot 3 (some FieldType.boolean) (fun G => [.ref (G.2.1 25), .int l1]) σ (fun G => some (.int x.1)) x.2) {l1 : Int32} {σ : St} {x : (Int32 × St)} (h : X2_readTerm rec l1 σ = some x) : Ct shX (hr + 2) yX2_readTerm cX2_readTerm 3 (some FieldType.boolean) (fun G => [.ref (G.2.1 25), .int l1]) σ (fun G => some (.int x.1)) x.2 := by
  refine Ct.of mw_X2_readTerm.1 (by decide +kernel) (fun G => Nat.le_of_ble_eq_true rfl) (fun G p l e d s m args below meth c A hd C => ?_)
  refine (?_ : Vw shX G p l e d s m args below meth c 3 A σ 0 [(0, .ref (G.2.1 25)), (1, .int l1)] [] (some (.int x.1)) x.2)
  unfold X2_readTerm at h
  refine V_aload_n C 0 dX2_readTerm_0 rfl rfl ?_
  refine V_iload_n C 1 dX2_readTerm_1 rfl rfl ?_
  obtain ⟨x2, h2, h⟩ := Option.bind_eq_some_iff.mp h
  refine V_callVi (As := [.int l1]) C (X2_readOne_ok hH hrec0 hrec1 hrec2 h2) mw_X2_readOne.1 mw_X2_readOne.2.1 mw_X2_readOne.2.2 q2_75 oX_25.1 oX_25.2.1 (by decide) rfl rfl (by omega) rfl rfl rfl (Nat.le_of_ble_eq_true rfl) dX2_readTerm_2 ?_
  by_cases c5 : x2.1 = 0
  · rw [if_pos c5] at h
    refine V_if_neF C 10 dX2_readTerm_5 (by decide) c5 ?_
    refine V_iconst C (w := 0) dX2_readTerm_8 (by decide) ?_
    obtain rfl := Option.some.inj h
    exact V_iret C rfl (nz (Or.inl rfl)) dX2_readTerm_9
  · rw [if_neg c5] at h
    refine V_if_neT C 10 dX2_readTerm_5 (by decide) c5 ?_
    refine V_iconst C (w := 0) dX2_readTerm_10 (by decide) ?_
    refine V_istore_n C (lv' := [(2, .int 0), (0, .ref (G.2.1 25)), (1, .int l1)]) dX2_readTerm_11 rfl (by decide) rfl ?_
    refine V_sub (lv' := [(0, .ref (G.2.1 25)), (1, .int l1), (2, .int 0)]) [1, 2, 0] rfl ?_
    exact X2_readTerm_b12_ok C hd hH hrec0 hrec1 hrec2 FU h
def X2_readSum_b43 (rec : Nat → Int32 → St → Option (Int32 × St)) (K12 : Int32 → Int32 → St → Option (Int32 × St)) (l1 : Int32) (l2 : Int32) (σ : St) : Option (Int32 × St) := (X7_step σ).bind (fun x55 => (X2_readTerm rec l1 x55).bind (fun x60 => if x60.1 = 0 then (some (0, x60.2)) else ((X8_write (σ.1 11 2) x60.2).bind (fun x71 => if x71.1 = 0 then (some (0, x71.2)) else (K12 l1 (l2 + 1) x71.2)))))
set_option maxRecDepth 100000 in
set_option maxHeartbeats 4000000 in
theorem X2_readSum_b43_ok {G : Gx} {p : Program} {l : Launch} {e : Env} {d : Nat} {s : State} {m : MethodId} {args : Array Value} {below : List Frame} {meth : Method} {c : Code} {A : Nat → Prop} {hr : Nat} {rec : Nat → Int32 → St → Option (Int32 × St)} {K12 : Int32 → Int32 → St → Option (Int32 × St)} (C : OK shX G p s m args meth c RX2 cX2_readSum 4 (some FieldType.boolean) A) (hd : hr + 3 ≤ d) (hH : 11 ≤ hr) (hrec0 : ∀  {l1 : Int32} {σ : St} {x : (Int32 × St)}, rec 0 l1 σ = some x → Ct shX hr yX2_readOne cX2_readOne 3 (some FieldType.boolean) (fun G => [.ref (G.2.1 25), .int l1]) σ (fun G => some (.int x.1)) x.2) (hrec1 : ∀  {l1 : Int32} {σ : St} {x : (Int32 × St)}, rec 1 l1 σ = some x → Ct shX hr yX2_readOr cX2_readOr 3 (some FieldType.boolean) (fun G => [.ref (G.2.1 25), .int l1]) σ (fun G => some (.int x.1)) x.2) (hrec2 : ∀  {l1 : Int32} {σ : St} {x : (Int32 × St)}, rec 2 l1 σ = some x → Ct shX hr yX2_readNot cX2_readNot 3 (some FieldType.boolean) (fun G => [.ref (G.2.1 25), .int l1]) σ (fun G => some (.int x.1)) x.2) (hK12 : ∀  {l1 : Int32} {l2 : Int32} {σ : St} {x : (Int32 × St)}, K12 l1 l2 σ = some x → Vw shX G p l e d s m args below meth c 4 A σ 12 [(0, .ref (G.2.1 25)), (1, .int l1), (2, .int l2)] [] (some (.int x.1)) x.2) {l1 : Int32} {l2 : Int32} {σ : St} {x : (Int32 × St)} (h : X2_readSum_b43 rec K12 l1 l2 σ = some x) : Vw shX G p l e d s m args below meth c 4 A σ 43 [(0, .ref (G.2.1 25)), (1, .int l1), (2, .int l2)] [] (some (.int x.1)) x.2 := by
  unfold X2_readSum_b43 at h
  refine V_aload_n C 0 dX2_readSum_43 rfl rfl ?_
  refine fg2_9 (r := 11) C oX_25 rfl dX2_readSum_44 ?_
  refine fg2_33 C oX_11 dX2_readSum_47 ?_
  refine V_istore_n C (lv' := [(3, .int (σ.1 11 2)), (0, .ref (G.2.1 25)), (1, .int l1), (2, .int l2)]) dX2_readSum_50 rfl (by decide) rfl ?_
  refine V_aload_n C 1 dX2_readSum_51 rfl rfl ?_
  refine fg2_9 (r := 11) C oX_25 rfl dX2_readSum_52 ?_
  obtain ⟨x55, h55, h⟩ := Option.bind_eq_some_iff.mp h
  refine V_callVv (As := []) C (X7_step_ok h55) mw_X7_step.1 mw_X7_step.2.1 mw_X7_step.2.2 q2_57 oX_11.1 oX_11.2.1 (by decide) rfl rfl (by omega) rfl rfl rfl (Nat.le_of_ble_eq_true rfl) dX2_readSum_55 ?_
  refine V_aload_n C 1 dX2_readSum_58 rfl rfl ?_
  refine V_iload_n C 2 dX2_readSum_59 rfl rfl ?_
  obtain ⟨x60, h60, h⟩ := Option.bind_eq_some_iff.mp h
  refine V_callVi (As := [.int l1]) C (X2_readTerm_ok hH hrec0 hrec1 hrec2 h60) mw_X2_readTerm.1 mw_X2_readTerm.2.1 mw_X2_readTerm.2.2 q2_72 oX_25.1 oX_25.2.1 (by decide) rfl rfl (by omega) rfl rfl rfl (Nat.le_of_ble_eq_true rfl) dX2_readSum_60 ?_
  by_cases c1 : x60.1 = 0
  · rw [if_pos c1] at h
    refine V_if_eqT C 77 dX2_readSum_63 (by decide) c1 ?_
    refine V_iconst C (w := 0) dX2_readSum_77 (by decide) ?_
    obtain rfl := Option.some.inj h
    exact V_iret C rfl (nz (Or.inl rfl)) dX2_readSum_78
  · rw [if_neg c1] at h
    refine V_if_eqF C 77 dX2_readSum_63 (by decide) c1 ?_
    refine V_aload_n C 1 dX2_readSum_66 rfl rfl ?_
    refine fg2_15 (r := 13) C oX_25 rfl dX2_readSum_67 ?_
    refine V_iload_n C 0 dX2_readSum_70 rfl rfl ?_
    obtain ⟨x71, h71, h⟩ := Option.bind_eq_some_iff.mp h
    refine V_callVi (As := [.int (σ.1 11 2)]) C (X8_write_ok h71) mw_X8_write.1 mw_X8_write.2.1 mw_X8_write.2.2 q2_63 oX_13.1 oX_13.2.1 (by decide) rfl rfl (by omega) rfl rfl rfl (Nat.le_of_ble_eq_true rfl) dX2_readSum_71 ?_
    by_cases c2 : x71.1 = 0
    · rw [if_pos c2] at h
      refine V_if_neF C 79 dX2_readSum_74 (by decide) c2 ?_
      refine V_iconst C (w := 0) dX2_readSum_77 (by decide) ?_
      obtain rfl := Option.some.inj h
      exact V_iret C rfl (nz (Or.inl rfl)) dX2_readSum_78
    · rw [if_neg c2] at h
      refine V_if_neT C 79 dX2_readSum_74 (by decide) c2 ?_
      refine V_iinc C (w := (l2 + 1)) (lv' := [(2, .int (l2 + 1)), (3, .int (σ.1 11 2)), (0, .ref (G.2.1 25)), (1, .int l1)]) 3 dX2_readSum_79 rfl (congrArg (l2 + ·) (show Int32.ofInt 1 = 1 by decide)) (by decide) rfl ?_
      refine V_goto C 12 dX2_readSum_82 (by decide) ?_
      refine V_sub (lv' := [(0, .ref (G.2.1 25)), (1, .int l1), (2, .int (l2 + 1))]) [2, 3, 0] rfl ?_
      exact hK12 h
def X2_readSum_b12 (rec : Nat → Int32 → St → Option (Int32 × St)) : Nat → Int32 → Int32 → St → Option (Int32 × St)
  | 0, _, _, _ => none
  | F + 1, l1, l2, σ => if 160 ≤ l2 then (some (1, σ)) else (if (σ.1 11 2) = (-12) then (X2_readSum_b43 rec (X2_readSum_b12 rec F) l1 l2 σ) else (if (σ.1 11 2) = (-13) then (X2_readSum_b43 rec (X2_readSum_b12 rec F) l1 l2 σ) else (some (1, σ))))
set_option maxRecDepth 100000 in
set_option maxHeartbeats 4000000 in
theorem X2_readSum_b12_ok {G : Gx} {p : Program} {l : Launch} {e : Env} {d : Nat} {s : State} {m : MethodId} {args : Array Value} {below : List Frame} {meth : Method} {c : Code} {A : Nat → Prop} {hr : Nat} {rec : Nat → Int32 → St → Option (Int32 × St)} (C : OK shX G p s m args meth c RX2 cX2_readSum 4 (some FieldType.boolean) A) (hd : hr + 3 ≤ d) (hH : 11 ≤ hr) (hrec0 : ∀  {l1 : Int32} {σ : St} {x : (Int32 × St)}, rec 0 l1 σ = some x → Ct shX hr yX2_readOne cX2_readOne 3 (some FieldType.boolean) (fun G => [.ref (G.2.1 25), .int l1]) σ (fun G => some (.int x.1)) x.2) (hrec1 : ∀  {l1 : Int32} {σ : St} {x : (Int32 × St)}, rec 1 l1 σ = some x → Ct shX hr yX2_readOr cX2_readOr 3 (some FieldType.boolean) (fun G => [.ref (G.2.1 25), .int l1]) σ (fun G => some (.int x.1)) x.2) (hrec2 : ∀  {l1 : Int32} {σ : St} {x : (Int32 × St)}, rec 2 l1 σ = some x → Ct shX hr yX2_readNot cX2_readNot 3 (some FieldType.boolean) (fun G => [.ref (G.2.1 25), .int l1]) σ (fun G => some (.int x.1)) x.2) : ∀ (F : Nat) {l1 : Int32} {l2 : Int32} {σ : St} {x : (Int32 × St)} (h : X2_readSum_b12 rec F l1 l2 σ = some x), Vw shX G p l e d s m args below meth c 4 A σ 12 [(0, .ref (G.2.1 25)), (1, .int l1), (2, .int l2)] [] (some (.int x.1)) x.2 := by
  intro F
  induction F with
  | zero =>
    intro l1 l2 σ x h
    rw [X2_readSum_b12] at h
    cases h
  | succ F ih =>
    intro l1 l2 σ x h
    rw [X2_readSum_b12] at h
    refine V_iload_n C 2 dX2_readSum_12 rfl rfl ?_
    refine V_sipush C (w := 160) dX2_readSum_13 (by decide) ?_
    by_cases c3 : 160 ≤ l2
    · rw [if_pos c3] at h
      refine V_icmp_geT C 85 dX2_readSum_16 (by decide) c3 ?_
      refine V_iconst C (w := 1) dX2_readSum_85 (by decide) ?_
      obtain rfl := Option.some.inj h
      exact V_iret C rfl (nz (Or.inr rfl)) dX2_readSum_86
    · rw [if_neg c3] at h
      refine V_icmp_geF C 85 dX2_readSum_16 (by decide) c3 ?_
      refine V_aload_n C 0 dX2_readSum_19 rfl rfl ?_
      refine fg2_9 (r := 11) C oX_25 rfl dX2_readSum_20 ?_
      refine fg2_33 C oX_11 dX2_readSum_23 ?_
      refine V_bipush C (w := (-12)) dX2_readSum_26 (by decide) ?_
      by_cases c4 : (σ.1 11 2) = (-12)
      · rw [if_pos c4] at h
        refine V_icmp_eqT C 43 dX2_readSum_28 (by decide) c4 ?_
        exact X2_readSum_b43_ok C hd hH hrec0 hrec1 hrec2 (fun h => ih h) h
      · rw [if_neg c4] at h
        refine V_icmp_eqF C 43 dX2_readSum_28 (by decide) c4 ?_
        refine V_aload_n C 0 dX2_readSum_31 rfl rfl ?_
        refine fg2_9 (r := 11) C oX_25 rfl dX2_readSum_32 ?_
        refine fg2_33 C oX_11 dX2_readSum_35 ?_
        refine V_bipush C (w := (-13)) dX2_readSum_38 (by decide) ?_
        by_cases c5 : (σ.1 11 2) = (-13)
        · rw [if_pos c5] at h
          refine V_icmp_neF C 85 dX2_readSum_40 (by decide) c5 ?_
          exact X2_readSum_b43_ok C hd hH hrec0 hrec1 hrec2 (fun h => ih h) h
        · rw [if_neg c5] at h
          refine V_icmp_neT C 85 dX2_readSum_40 (by decide) c5 ?_
          refine V_iconst C (w := 1) dX2_readSum_85 (by decide) ?_
          obtain rfl := Option.some.inj h
          exact V_iret C rfl (nz (Or.inr rfl)) dX2_readSum_86
def X2_readSum (rec : Nat → Int32 → St → Option (Int32 × St)) (l1 : Int32) (σ : St) : Option (Int32 × St) := (X2_readTerm rec l1 σ).bind (fun x2 => if x2.1 = 0 then (some (0, x2.2)) else (X2_readSum_b12 rec FU l1 0 x2.2))
set_option maxRecDepth 100000 in
set_option maxHeartbeats 4000000 in
theorem X2_readSum_ok {hr : Nat} {rec : Nat → Int32 → St → Option (Int32 × St)} (hH : 11 ≤ hr) (hrec0 : ∀  {l1 : Int32} {σ : St} {x : (Int32 × St)}, rec 0 l1 σ = some x → Ct shX hr yX2_readOne cX2_readOne 3 (some FieldType.boolean) (fun G => [.ref (G.2.1 25), .int l1]) σ (fun G => some (.int x.1)) x.2) (hrec1 : ∀  {l1 : Int32} {σ : St} {x : (Int32 × St)}, rec 1 l1 σ = some x → Ct shX hr yX2_readOr cX2_readOr 3 (some FieldType.boolean) (fun G => [.ref (G.2.1 25), .int l1]) σ (fun G => some (.int x.1)) x.2) (hrec2 : ∀  {l1 : Int32} {σ : St} {x : (Int32 × St)}, rec 2 l1 σ = some x → Ct shX hr yX2_readNot cX2_readNot 3 (some FieldType.boolean) (fun G => [.ref (G.2.1 25), .int l1]) σ (fun G => some (.int x.1)) x.2) {l1 : Int32} {σ : St} {x : (Int32 × St)} (h : X2_readSum rec l1 σ = some x) : Ct shX (hr + 3) yX2_readSum cX2_readSum 4 (some FieldType.boolean) (fun G => [.ref (G.2.1 25), .int l1]) σ (fun G => some (.int x.1)) x.2 := by
  refine Ct.of mw_X2_readSum.1 (by decide +kernel) (fun G => Nat.le_of_ble_eq_true rfl) (fun G p l e d s m args below meth c A hd C => ?_)
  refine (?_ : Vw shX G p l e d s m args below meth c 4 A σ 0 [(0, .ref (G.2.1 25)), (1, .int l1)] [] (some (.int x.1)) x.2)
  unfold X2_readSum at h
  refine V_aload_n C 0 dX2_readSum_0 rfl rfl ?_
  refine V_iload_n C 1 dX2_readSum_1 rfl rfl ?_
  obtain ⟨x2, h2, h⟩ := Option.bind_eq_some_iff.mp h
  refine V_callVi (As := [.int l1]) C (X2_readTerm_ok hH hrec0 hrec1 hrec2 h2) mw_X2_readTerm.1 mw_X2_readTerm.2.1 mw_X2_readTerm.2.2 q2_72 oX_25.1 oX_25.2.1 (by decide) rfl rfl (by omega) rfl rfl rfl (Nat.le_of_ble_eq_true rfl) dX2_readSum_2 ?_
  by_cases c6 : x2.1 = 0
  · rw [if_pos c6] at h
    refine V_if_neF C 10 dX2_readSum_5 (by decide) c6 ?_
    refine V_iconst C (w := 0) dX2_readSum_8 (by decide) ?_
    obtain rfl := Option.some.inj h
    exact V_iret C rfl (nz (Or.inl rfl)) dX2_readSum_9
  · rw [if_neg c6] at h
    refine V_if_neT C 10 dX2_readSum_5 (by decide) c6 ?_
    refine V_iconst C (w := 0) dX2_readSum_10 (by decide) ?_
    refine V_istore_n C (lv' := [(2, .int 0), (0, .ref (G.2.1 25)), (1, .int l1)]) dX2_readSum_11 rfl (by decide) rfl ?_
    refine V_sub (lv' := [(0, .ref (G.2.1 25)), (1, .int l1), (2, .int 0)]) [1, 2, 0] rfl ?_
    exact X2_readSum_b12_ok C hd hH hrec0 hrec1 hrec2 FU h
