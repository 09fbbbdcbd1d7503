def X9_init_b169 : Nat → Int32 → St → Option St
  | 0, _, _ => none
  | F + 1, l1, σ => (sLen 0).bind (fun x172 => if x172 ≤ l1 then ((X2_read σ).bind (fun x202 => some x202.2)) else ((sCh 0 l1).bind (fun x185 => (X7_take x185 σ).bind (fun x188 => X9_init_b169 F (l1 + 1) x188.2))))
set_option maxRecDepth 100000 in
set_option maxHeartbeats 4000000 in
theorem X9_init_b169_ok {G : Gx} {p : Program} {l : Launch} {e : Env} {d : Nat} {s : State} {m : MethodId} {args : Array Value} {below : List Frame} {meth : Method} {c : Code} {A : Nat → Prop} {R : Room} {cells slots : Nat} {Q : State → Prop} (C : OK shX G p s m args meth c RX9 cX9_init 2 none A) (hd : 68 ≤ d) : ∀ (F : Nat) {l1 : Int32} {σ x : St} (h : X9_init_b169 F l1 σ = some x) (hend : ∀ lv, Uw shX G p l e d R s m args below meth c 2 A cells slots Q x 206 lv []), Uw shX G p l e d R s m args below meth c 2 A cells slots Q σ 169 [(0, .ref (G.2.1 0)), (1, .int l1)] [] := by
  intro F
  induction F with
  | zero =>
    intro l1 σ x h hend
    rw [X9_init_b169] at h
    cases h
  | succ F ih =>
    intro l1 σ x h hend
    rw [X9_init_b169] at h
    refine V_iload_n C 1 dX9_init_169 rfl rfl ?_
    refine V_ldcS (i := 0) C (by decide) rfl rfl dX9_init_170 ?_
    obtain ⟨x172, h172, h⟩ := Option.bind_eq_some_iff.mp h
    refine V_sLen C h172 q9_80 (by omega) (Nat.le_of_ble_eq_true rfl) dX9_init_172 ?_
    by_cases c1 : x172 ≤ l1
    · rw [if_pos c1] at h
      refine V_icmp_geT C 198 dX9_init_175 (by decide) c1 ?_
      refine V_aload_n C 0 dX9_init_198 rfl rfl ?_
      refine fg9_42 (r := 25) C oX_0 rfl dX9_init_199 ?_
      obtain ⟨x202, h202, h⟩ := Option.bind_eq_some_iff.mp h
      refine V_callVi (As := []) C (X2_read_ok h202) mw_X2_read.1 mw_X2_read.2.1 mw_X2_read.2.2 q9_94 oX_25.1 oX_25.2.1 (by decide) rfl rfl (by omega) rfl rfl rfl (Nat.le_of_ble_eq_true rfl) dX9_init_202 ?_
      refine V_pop C dX9_init_205 rfl ?_
      obtain rfl := Option.some.inj h
      exact hend _
    · rw [if_neg c1] at h
      refine V_icmp_geF C 198 dX9_init_175 (by decide) c1 ?_
      refine V_aload_n C 0 dX9_init_178 rfl rfl ?_
      refine fg9_26 (r := 11) C oX_0 rfl dX9_init_179 ?_
      refine V_ldcS (i := 0) C (by decide) rfl rfl dX9_init_182 ?_
      refine V_iload_n C 1 dX9_init_184 rfl rfl ?_
      obtain ⟨x185, h185, h⟩ := Option.bind_eq_some_iff.mp h
      refine V_sCh C h185 q9_86 (by omega) (Nat.le_of_ble_eq_true rfl) dX9_init_185 ?_
      obtain ⟨x188, h188, h⟩ := Option.bind_eq_some_iff.mp h
      refine V_callVi (As := [.int x185]) C (X7_take_ok h188) mw_X7_take.1 mw_X7_take.2.1 mw_X7_take.2.2 q9_90 oX_11.1 oX_11.2.1 (by decide) rfl rfl (by omega) rfl rfl rfl (Nat.le_of_ble_eq_true rfl) dX9_init_188 ?_
      refine V_pop C dX9_init_191 rfl ?_
      refine V_iinc C (w := (l1 + 1)) (lv' := [(1, .int (l1 + 1)), (0, .ref (G.2.1 0))]) 1 dX9_init_192 rfl (congrArg (l1 + ·) (show Int32.ofInt 1 = 1 by decide)) (by decide) rfl ?_
      refine V_goto C 169 dX9_init_195 (by decide) ?_
      refine V_sub (lv' := [(0, .ref (G.2.1 0)), (1, .int (l1 + 1))]) [1, 0] rfl ?_
      exact ih h hend
