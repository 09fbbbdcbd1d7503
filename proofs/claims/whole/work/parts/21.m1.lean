def X10_term_b5 (rec : Nat → St → Option (Int32 × St)) : Nat → Int32 → St → Option (Int32 × St)
  | 0, _, _ => none
  | F + 1, l1, σ => (X10_isSign 42 σ).bind (fun x8 => if x8 = 0 then (some (l1, σ)) else ((X10_next σ).bind (fun x15 => (X10_atom rec x15).bind (fun x20 => X10_term_b5 rec F (l1 * x20.1) x20.2))))
set_option maxRecDepth 100000 in
set_option maxHeartbeats 4000000 in
theorem X10_term_b5_ok {G : Gx} {p : Program} {l : Launch} {e : Env} {d : Nat} {s : State} {m : MethodId} {args : Array Value} {below : List Frame} {meth : Method} {c : Code} {A : Nat → Prop} {hr : Nat} {rec : Nat → St → Option (Int32 × St)} (C : OK shM G p s m args meth c RX10 cX10_term 2 (some FieldType.int) A) (hd : hr + 2 ≤ d) (hH : 5 ≤ hr) (hrec0 : ∀  {σ : St} {x : (Int32 × St)}, rec 0 σ = some x → Ct shM hr yX10_atom cX10_atom 2 (some FieldType.int) (fun G => [.ref (G.2.1 0)]) σ (fun G => some (.int x.1)) x.2) (hrec1 : ∀  {σ : St} {x : (Int32 × St)}, rec 1 σ = some x → Ct shM hr yX10_either cX10_either 3 (some FieldType.int) (fun G => [.ref (G.2.1 0)]) σ (fun G => some (.int x.1)) x.2) (hrec2 : ∀  {σ : St} {x : (Int32 × St)}, rec 2 σ = some x → Ct shM hr yX10_not cX10_not 4 (some FieldType.int) (fun G => [.ref (G.2.1 0)]) σ (fun G => some (.int x.1)) x.2) : ∀ (F : Nat) {l1 : Int32} {σ : St} {x : (Int32 × St)} (h : X10_term_b5 rec F l1 σ = some x), Vw shM G p l e d s m args below meth c 2 A σ 5 [(0, .ref (G.2.1 0)), (1, .int l1)] [] (some (.int x.1)) x.2 := by
  intro F
  induction F with
  | zero =>
    intro l1 σ x h
    rw [X10_term_b5] at h
    cases h
  | succ F ih =>
    intro l1 σ x h
    rw [X10_term_b5] at h
    refine V_aload_n C 0 dX10_term_5 rfl rfl ?_
    refine V_bipush C (w := 42) dX10_term_6 (by decide) ?_
    obtain ⟨x8, h8, h⟩ := Option.bind_eq_some_iff.mp h
    refine V_callVi (As := [.int 42]) C (X10_isSign_ok h8) mw_X10_isSign.1 mw_X10_isSign.2.1 mw_X10_isSign.2.2 q10_206 oM_0.1 oM_0.2.1 (by decide) rfl rfl (by omega) rfl rfl rfl (Nat.le_of_ble_eq_true rfl) dX10_term_8 ?_
    by_cases c1 : x8 = 0
    · rw [if_pos c1] at h
      refine V_if_eqT C 28 dX10_term_11 (by decide) c1 ?_
      refine V_iload_n C 1 dX10_term_28 rfl rfl ?_
      obtain rfl := Option.some.inj h
      exact V_iret C rfl rfl dX10_term_29
    · rw [if_neg c1] at h
      refine V_if_eqF C 28 dX10_term_11 (by decide) c1 ?_
      refine V_aload_n C 0 dX10_term_14 rfl rfl ?_
      obtain ⟨x15, h15, h⟩ := Option.bind_eq_some_iff.mp h
      refine V_callVv (As := []) C (X10_next_ok h15) mw_X10_next.1 mw_X10_next.2.1 mw_X10_next.2.2 q10_181 oM_0.1 oM_0.2.1 (by decide) rfl rfl (by omega) rfl rfl rfl (Nat.le_of_ble_eq_true rfl) dX10_term_15 ?_
      refine V_iload_n C 1 dX10_term_18 rfl rfl ?_
      refine V_aload_n C 0 dX10_term_19 rfl rfl ?_
      obtain ⟨x20, h20, h⟩ := Option.bind_eq_some_iff.mp h
      refine V_callVi (As := []) C (X10_atom_ok hH hrec0 hrec1 hrec2 h20) mw_X10_atom.1 mw_X10_atom.2.1 mw_X10_atom.2.2 q10_213 oM_0.1 oM_0.2.1 (by decide) rfl rfl (by omega) rfl rfl rfl (Nat.le_of_ble_eq_true rfl) dX10_term_20 ?_
      refine V_imul C dX10_term_23 ?_
      refine V_istore_n C (lv' := [(1, .int (l1 * x20.1)), (0, .ref (G.2.1 0))]) dX10_term_24 rfl (by decide) rfl ?_
      refine V_goto C 5 dX10_term_25 (by decide) ?_
      refine V_sub (lv' := [(0, .ref (G.2.1 0)), (1, .int (l1 * x20.1))]) [1, 0] rfl ?_
      exact ih h
def X10_term (rec : Nat → St → Option (Int32 × St)) (σ : St) : Option (Int32 × St) := (X10_atom rec σ).bind (fun x1 => X10_term_b5 rec FU x1.1 x1.2)
set_option maxRecDepth 100000 in
set_option maxHeartbeats 4000000 in
theorem X10_term_ok {hr : Nat} {rec : Nat → St → Option (Int32 × St)} (hH : 5 ≤ hr) (hrec0 : ∀  {σ : St} {x : (Int32 × St)}, rec 0 σ = some x → Ct shM hr yX10_atom cX10_atom 2 (some FieldType.int) (fun G => [.ref (G.2.1 0)]) σ (fun G => some (.int x.1)) x.2) (hrec1 : ∀  {σ : St} {x : (Int32 × St)}, rec 1 σ = some x → Ct shM hr yX10_either cX10_either 3 (some FieldType.int) (fun G => [.ref (G.2.1 0)]) σ (fun G => some (.int x.1)) x.2) (hrec2 : ∀  {σ : St} {x : (Int32 × St)}, rec 2 σ = some x → Ct shM hr yX10_not cX10_not 4 (some FieldType.int) (fun G => [.ref (G.2.1 0)]) σ (fun G => some (.int x.1)) x.2) {σ : St} {x : (Int32 × St)} (h : X10_term rec σ = some x) : Ct shM (hr + 2) yX10_term cX10_term 2 (some FieldType.int) (fun G => [.ref (G.2.1 0)]) σ (fun G => some (.int x.1)) x.2 := by
  refine Ct.of mw_X10_term.1 (by decide +kernel) (fun G => Nat.le_of_ble_eq_true rfl) (fun G p l e d s m args below meth c A hd C => ?_)
  refine (?_ : Vw shM G p l e d s m args below meth c 2 A σ 0 [(0, .ref (G.2.1 0))] [] (some (.int x.1)) x.2)
  unfold X10_term at h
  refine V_aload_n C 0 dX10_term_0 rfl rfl ?_
  obtain ⟨x1, h1, h⟩ := Option.bind_eq_some_iff.mp h
  refine V_callVi (As := []) C (X10_atom_ok hH hrec0 hrec1 hrec2 h1) mw_X10_atom.1 mw_X10_atom.2.1 mw_X10_atom.2.2 q10_213 oM_0.1 oM_0.2.1 (by decide) rfl rfl (by omega) rfl rfl rfl (Nat.le_of_ble_eq_true rfl) dX10_term_1 ?_
  refine V_istore_n C (lv' := [(1, .int x1.1), (0, .ref (G.2.1 0))]) dX10_term_4 rfl (by decide) rfl ?_
  refine V_sub (lv' := [(0, .ref (G.2.1 0)), (1, .int x1.1)]) [1, 0] rfl ?_
  exact X10_term_b5_ok C hd hH hrec0 hrec1 hrec2 FU h
def X10_added_b62 (rec : Nat → St → Option (Int32 × St)) (K5 : Int32 → St → Option (Int32 × St)) (s0 : Int32) (σ : St) : Option (Int32 × St) := K5 s0 σ
set_option maxRecDepth 100000 in
set_option maxHeartbeats 4000000 in
theorem X10_added_b62_ok {G : Gx} {p : Program} {l : Launch} {e : Env} {d : Nat} {s : State} {m : MethodId} {args : Array Value} {below : List Frame} {meth : Method} {c : Code} {A : Nat → Prop} {hr : Nat} {rec : Nat → St → Option (Int32 × St)} {K5 : Int32 → St → Option (Int32 × St)} (C : OK shM G p s m args meth c RX10 cX10_added 4 (some FieldType.int) A) (hd : hr + 3 ≤ d) (hH : 5 ≤ hr) (hrec0 : ∀  {σ : St} {x : (Int32 × St)}, rec 0 σ = some x → Ct shM hr yX10_atom cX10_atom 2 (some FieldType.int) (fun G => [.ref (G.2.1 0)]) σ (fun G => some (.int x.1)) x.2) (hrec1 : ∀  {σ : St} {x : (Int32 × St)}, rec 1 σ = some x → Ct shM hr yX10_either cX10_either 3 (some FieldType.int) (fun G => [.ref (G.2.1 0)]) σ (fun G => some (.int x.1)) x.2) (hrec2 : ∀  {σ : St} {x : (Int32 × St)}, rec 2 σ = some x → Ct shM hr yX10_not cX10_not 4 (some FieldType.int) (fun G => [.ref (G.2.1 0)]) σ (fun G => some (.int x.1)) x.2) (hK5 : ∀  {l1 : Int32} {σ : St} {x : (Int32 × St)}, K5 l1 σ = some x → Vw shM G p l e d s m args below meth c 4 A σ 5 [(0, .ref (G.2.1 0)), (1, .int l1)] [] (some (.int x.1)) x.2) {s0 : Int32} {σ : St} {x : (Int32 × St)} (h : X10_added_b62 rec K5 s0 σ = some x) : Vw shM G p l e d s m args below meth c 4 A σ 62 [(0, .ref (G.2.1 0))] [.int s0] (some (.int x.1)) x.2 := by
  unfold X10_added_b62 at h
  refine V_istore_n C (lv' := [(1, .int s0), (0, .ref (G.2.1 0))]) dX10_added_62 rfl (by decide) rfl ?_
  refine V_goto C 5 dX10_added_63 (by decide) ?_
  refine V_sub (lv' := [(0, .ref (G.2.1 0)), (1, .int s0)]) [1, 0] rfl ?_
  exact hK5 h
def X10_added_b39 (rec : Nat → St → Option (Int32 × St)) (K5 : Int32 → St → Option (Int32 × St)) (l1 : Int32) (s0 : Int32) (σ : St) : Option (Int32 × St) := (X10_next σ).bind (fun x41 => (X10_term rec x41).bind (fun x45 => if s0 = 0 then (X10_added_b62 rec K5 (l1 - x45.1) x45.2) else (X10_added_b62 rec K5 (l1 + x45.1) x45.2)))
set_option maxRecDepth 100000 in
set_option maxHeartbeats 4000000 in
theorem X10_added_b39_ok {G : Gx} {p : Program} {l : Launch} {e : Env} {d : Nat} {s : State} {m : MethodId} {args : Array Value} {below : List Frame} {meth : Method} {c : Code} {A : Nat → Prop} {hr : Nat} {rec : Nat → St → Option (Int32 × St)} {K5 : Int32 → St → Option (Int32 × St)} (C : OK shM G p s m args meth c RX10 cX10_added 4 (some FieldType.int) A) (hd : hr + 3 ≤ d) (hH : 5 ≤ hr) (hrec0 : ∀  {σ : St} {x : (Int32 × St)}, rec 0 σ = some x → Ct shM hr yX10_atom cX10_atom 2 (some FieldType.int) (fun G => [.ref (G.2.1 0)]) σ (fun G => some (.int x.1)) x.2) (hrec1 : ∀  {σ : St} {x : (Int32 × St)}, rec 1 σ = some x → Ct shM hr yX10_either cX10_either 3 (some FieldType.int) (fun G => [.ref (G.2.1 0)]) σ (fun G => some (.int x.1)) x.2) (hrec2 : ∀  {σ : St} {x : (Int32 × St)}, rec 2 σ = some x → Ct shM hr yX10_not cX10_not 4 (some FieldType.int) (fun G => [.ref (G.2.1 0)]) σ (fun G => some (.int x.1)) x.2) (hK5 : ∀  {l1 : Int32} {σ : St} {x : (Int32 × St)}, K5 l1 σ = some x → Vw shM G p l e d s m args below meth c 4 A σ 5 [(0, .ref (G.2.1 0)), (1, .int l1)] [] (some (.int x.1)) x.2) {l1 : Int32} {s0 : Int32} {σ : St} {x : (Int32 × St)} (h : X10_added_b39 rec K5 l1 s0 σ = some x) : Vw shM G p l e d s m args below meth c 4 A σ 39 [(0, .ref (G.2.1 0)), (1, .int l1)] [.int s0] (some (.int x.1)) x.2 := by
  unfold X10_added_b39 at h
  refine V_istore_n C (lv' := [(2, .int s0), (0, .ref (G.2.1 0)), (1, .int l1)]) dX10_added_39 rfl (by decide) rfl ?_
  refine V_aload_n C 1 dX10_added_40 rfl rfl ?_
  obtain ⟨x41, h41, h⟩ := Option.bind_eq_some_iff.mp h
  refine V_callVv (As := []) C (X10_next_ok h41) mw_X10_next.1 mw_X10_next.2.1 mw_X10_next.2.2 q10_181 oM_0.1 oM_0.2.1 (by decide) rfl rfl (by omega) rfl rfl rfl (Nat.le_of_ble_eq_true rfl) dX10_added_41 ?_
  refine V_aload_n C 1 dX10_added_44 rfl rfl ?_
  obtain ⟨x45, h45, h⟩ := Option.bind_eq_some_iff.mp h
  refine V_callVi (As := []) C (X10_term_ok hH hrec0 hrec1 hrec2 h45) mw_X10_term.1 mw_X10_term.2.1 mw_X10_term.2.2 q10_223 oM_0.1 oM_0.2.1 (by decide) rfl rfl (by omega) rfl rfl rfl (Nat.le_of_ble_eq_true rfl) dX10_added_45 ?_
  refine V_istore_n C (lv' := [(3, .int x45.1), (2, .int s0), (0, .ref (G.2.1 0)), (1, .int l1)]) dX10_added_48 rfl (by decide) rfl ?_
  refine V_iload_n C 1 dX10_added_49 rfl rfl ?_
  by_cases c1 : s0 = 0
  · rw [if_pos c1] at h
    refine V_if_eqT C 59 dX10_added_50 (by decide) c1 ?_
    refine V_iload_n C 3 dX10_added_59 rfl rfl ?_
    refine V_iload_n C 0 dX10_added_60 rfl rfl ?_
    refine V_isub C dX10_added_61 ?_
    refine V_sub (lv' := [(0, .ref (G.2.1 0))]) [2] rfl ?_
    exact X10_added_b62_ok C hd hH hrec0 hrec1 hrec2 hK5 h
  · rw [if_neg c1] at h
    refine V_if_eqF C 59 dX10_added_50 (by decide) c1 ?_
    refine V_iload_n C 3 dX10_added_53 rfl rfl ?_
    refine V_iload_n C 0 dX10_added_54 rfl rfl ?_
    refine V_iadd C dX10_added_55 ?_
    refine V_goto C 62 dX10_added_56 (by decide) ?_
    refine V_sub (lv' := [(0, .ref (G.2.1 0))]) [2] rfl ?_
    exact X10_added_b62_ok C hd hH hrec0 hrec1 hrec2 hK5 h
def X10_added_b23 (rec : Nat → St → Option (Int32 × St)) (K5 : Int32 → St → Option (Int32 × St)) (l1 : Int32) (σ : St) : Option (Int32 × St) := if (lg_cmp σ.2 43) = 0 then (X10_added_b39 rec K5 l1 1 σ) else (X10_added_b39 rec K5 l1 0 σ)
set_option maxRecDepth 100000 in
set_option maxHeartbeats 4000000 in
theorem X10_added_b23_ok {G : Gx} {p : Program} {l : Launch} {e : Env} {d : Nat} {s : State} {m : MethodId} {args : Array Value} {below : List Frame} {meth : Method} {c : Code} {A : Nat → Prop} {hr : Nat} {rec : Nat → St → Option (Int32 × St)} {K5 : Int32 → St → Option (Int32 × St)} (C : OK shM G p s m args meth c RX10 cX10_added 4 (some FieldType.int) A) (hd : hr + 3 ≤ d) (hH : 5 ≤ hr) (hrec0 : ∀  {σ : St} {x : (Int32 × St)}, rec 0 σ = some x → Ct shM hr yX10_atom cX10_atom 2 (some FieldType.int) (fun G => [.ref (G.2.1 0)]) σ (fun G => some (.int x.1)) x.2) (hrec1 : ∀  {σ : St} {x : (Int32 × St)}, rec 1 σ = some x → Ct shM hr yX10_either cX10_either 3 (some FieldType.int) (fun G => [.ref (G.2.1 0)]) σ (fun G => some (.int x.1)) x.2) (hrec2 : ∀  {σ : St} {x : (Int32 × St)}, rec 2 σ = some x → Ct shM hr yX10_not cX10_not 4 (some FieldType.int) (fun G => [.ref (G.2.1 0)]) σ (fun G => some (.int x.1)) x.2) (hK5 : ∀  {l1 : Int32} {σ : St} {x : (Int32 × St)}, K5 l1 σ = some x → Vw shM G p l e d s m args below meth c 4 A σ 5 [(0, .ref (G.2.1 0)), (1, .int l1)] [] (some (.int x.1)) x.2) {l1 : Int32} {σ : St} {x : (Int32 × St)} (h : X10_added_b23 rec K5 l1 σ = some x) : Vw shM G p l e d s m args below meth c 4 A σ 23 [(0, .ref (G.2.1 0)), (1, .int l1)] [] (some (.int x.1)) x.2 := by
  unfold X10_added_b23 at h
  refine V_aload_n C 0 dX10_added_23 rfl rfl ?_
  refine fg10_158 C oM_0 dX10_added_24 ?_
  refine V_ldc2 C (w := 43) dX10_added_27 qk10_226 ?_
  refine V_lcmp C dX10_added_30 ?_
  by_cases c2 : (lg_cmp σ.2 43) = 0
  · rw [if_pos c2] at h
    refine V_if_neF C 38 dX10_added_31 (by decide) c2 ?_
    refine V_iconst C (w := 1) dX10_added_34 (by decide) ?_
    refine V_goto C 39 dX10_added_35 (by decide) ?_
    exact X10_added_b39_ok C hd hH hrec0 hrec1 hrec2 hK5 h
  · rw [if_neg c2] at h
    refine V_if_neT C 38 dX10_added_31 (by decide) c2 ?_
    refine V_iconst C (w := 0) dX10_added_38 (by decide) ?_
    exact X10_added_b39_ok C hd hH hrec0 hrec1 hrec2 hK5 h
def X10_added_b5 (rec : Nat → St → Option (Int32 × St)) : Nat → Int32 → St → Option (Int32 × St)
  | 0, _, _ => none
  | F + 1, l1, σ => (X10_isSign 43 σ).bind (fun x8 => if x8 = 0 then ((X10_isSign 45 σ).bind (fun x17 => if x17 = 0 then (some (l1, σ)) else (X10_added_b23 rec (X10_added_b5 rec F) l1 σ))) else (X10_added_b23 rec (X10_added_b5 rec F) l1 σ))
set_option maxRecDepth 100000 in
set_option maxHeartbeats 4000000 in
theorem X10_added_b5_ok {G : Gx} {p : Program} {l : Launch} {e : Env} {d : Nat} {s : State} {m : MethodId} {args : Array Value} {below : List Frame} {meth : Method} {c : Code} {A : Nat → Prop} {hr : Nat} {rec : Nat → St → Option (Int32 × St)} (C : OK shM G p s m args meth c RX10 cX10_added 4 (some FieldType.int) A) (hd : hr + 3 ≤ d) (hH : 5 ≤ hr) (hrec0 : ∀  {σ : St} {x : (Int32 × St)}, rec 0 σ = some x → Ct shM hr yX10_atom cX10_atom 2 (some FieldType.int) (fun G => [.ref (G.2.1 0)]) σ (fun G => some (.int x.1)) x.2) (hrec1 : ∀  {σ : St} {x : (Int32 × St)}, rec 1 σ = some x → Ct shM hr yX10_either cX10_either 3 (some FieldType.int) (fun G => [.ref (G.2.1 0)]) σ (fun G => some (.int x.1)) x.2) (hrec2 : ∀  {σ : St} {x : (Int32 × St)}, rec 2 σ = some x → Ct shM hr yX10_not cX10_not 4 (some FieldType.int) (fun G => [.ref (G.2.1 0)]) σ (fun G => some (.int x.1)) x.2) : ∀ (F : Nat) {l1 : Int32} {σ : St} {x : (Int32 × St)} (h : X10_added_b5 rec F l1 σ = some x), Vw shM G p l e d s m args below meth c 4 A σ 5 [(0, .ref (G.2.1 0)), (1, .int l1)] [] (some (.int x.1)) x.2 := by
  intro F
  induction F with
  | zero =>
    intro l1 σ x h
    rw [X10_added_b5] at h
    cases h
  | succ F ih =>
    intro l1 σ x h
    rw [X10_added_b5] at h
    refine V_aload_n C 0 dX10_added_5 rfl rfl ?_
    refine V_bipush C (w := 43) dX10_added_6 (by decide) ?_
    obtain ⟨x8, h8, h⟩ := Option.bind_eq_some_iff.mp h
    refine V_callVi (As := [.int 43]) C (X10_isSign_ok h8) mw_X10_isSign.1 mw_X10_isSign.2.1 mw_X10_isSign.2.2 q10_206 oM_0.1 oM_0.2.1 (by decide) rfl rfl (by omega) rfl rfl rfl (Nat.le_of_ble_eq_true rfl) dX10_added_8 ?_
    by_cases c3 : x8 = 0
    · rw [if_pos c3] at h
      refine V_if_neF C 23 dX10_added_11 (by decide) c3 ?_
      refine V_aload_n C 0 dX10_added_14 rfl rfl ?_
      refine V_bipush C (w := 45) dX10_added_15 (by decide) ?_
      obtain ⟨x17, h17, h⟩ := Option.bind_eq_some_iff.mp h
      refine V_callVi (As := [.int 45]) C (X10_isSign_ok h17) mw_X10_isSign.1 mw_X10_isSign.2.1 mw_X10_isSign.2.2 q10_206 oM_0.1 oM_0.2.1 (by decide) rfl rfl (by omega) rfl rfl rfl (Nat.le_of_ble_eq_true rfl) dX10_added_17 ?_
      by_cases c4 : x17 = 0
      · rw [if_pos c4] at h
        refine V_if_eqT C 66 dX10_added_20 (by decide) c4 ?_
        refine V_iload_n C 1 dX10_added_66 rfl rfl ?_
        obtain rfl := Option.some.inj h
        exact V_iret C rfl rfl dX10_added_67
      · rw [if_neg c4] at h
        refine V_if_eqF C 66 dX10_added_20 (by decide) c4 ?_
        exact X10_added_b23_ok C hd hH hrec0 hrec1 hrec2 (fun h => ih h) h
    · rw [if_neg c3] at h
      refine V_if_neT C 23 dX10_added_11 (by decide) c3 ?_
      exact X10_added_b23_ok C hd hH hrec0 hrec1 hrec2 (fun h => ih h) h
def X10_added (rec : Nat → St → Option (Int32 × St)) (σ : St) : Option (Int32 × St) := (X10_term rec σ).bind (fun x1 => X10_added_b5 rec FU x1.1 x1.2)
set_option maxRecDepth 100000 in
set_option maxHeartbeats 4000000 in
theorem X10_added_ok {hr : Nat} {rec : Nat → St → Option (Int32 × St)} (hH : 5 ≤ hr) (hrec0 : ∀  {σ : St} {x : (Int32 × St)}, rec 0 σ = some x → Ct shM hr yX10_atom cX10_atom 2 (some FieldType.int) (fun G => [.ref (G.2.1 0)]) σ (fun G => some (.int x.1)) x.2) (hrec1 : ∀  {σ : St} {x : (Int32 × St)}, rec 1 σ = some x → Ct shM hr yX10_either cX10_either 3 (some FieldType.int) (fun G => [.ref (G.2.1 0)]) σ (fun G => some (.int x.1)) x.2) (hrec2 : ∀  {σ : St} {x : (Int32 × St)}, rec 2 σ = some x → Ct shM hr yX10_not cX10_not 4 (some FieldType.int) (fun G => [.ref (G.2.1 0)]) σ (fun G => some (.int x.1)) x.2) {σ : St} {x : (Int32 × St)} (h : X10_added rec σ = some x) : Ct shM (hr + 3) yX10_added cX10_added 4 (some FieldType.int) (fun G => [.ref (G.2.1 0)]) σ (fun G => some (.int x.1)) x.2 := by
  refine Ct.of mw_X10_added.1 (by decide +kernel) (fun G => Nat.le_of_ble_eq_true rfl) (fun G p l e d s m args below meth c A hd C => ?_)
  refine (?_ : Vw shM G p l e d s m args below meth c 4 A σ 0 [(0, .ref (G.2.1 0))] [] (some (.int x.1)) x.2)
  unfold X10_added at h
  refine V_aload_n C 0 dX10_added_0 rfl rfl ?_
  obtain ⟨x1, h1, h⟩ := Option.bind_eq_some_iff.mp h
  refine V_callVi (As := []) C (X10_term_ok hH hrec0 hrec1 hrec2 h1) mw_X10_term.1 mw_X10_term.2.1 mw_X10_term.2.2 q10_223 oM_0.1 oM_0.2.1 (by decide) rfl rfl (by omega) rfl rfl rfl (Nat.le_of_ble_eq_true rfl) dX10_added_1 ?_
  refine V_istore_n C (lv' := [(1, .int x1.1), (0, .ref (G.2.1 0))]) dX10_added_4 rfl (by decide) rfl ?_
  refine V_sub (lv' := [(0, .ref (G.2.1 0)), (1, .int x1.1)]) [1, 0] rfl ?_
  exact X10_added_b5_ok C hd hH hrec0 hrec1 hrec2 FU h
def X10_not_b93 (rec : Nat → St → Option (Int32 × St)) (l1 : Int32) (s0 : Int32) (σ : St) : Option (Int32 × St) := (X10_next σ).bind (fun x95 => (X10_added rec x95).bind (fun x99 => if s0 = 0 then (if l1 = x99.1 then (some (1, x99.2)) else (some (0, x99.2))) else (if x99.1 ≤ l1 then (some (0, x99.2)) else (some (1, x99.2)))))
set_option maxRecDepth 100000 in
set_option maxHeartbeats 4000000 in
theorem X10_not_b93_ok {G : Gx} {p : Program} {l : Launch} {e : Env} {d : Nat} {s : State} {m : MethodId} {args : Array Value} {below : List Frame} {meth : Method} {c : Code} {A : Nat → Prop} {hr : Nat} {rec : Nat → St → Option (Int32 × St)} (C : OK shM G p s m args meth c RX10 cX10_not 4 (some FieldType.int) A) (hd : hr + 4 ≤ d) (hH : 5 ≤ hr) (hrec0 : ∀  {σ : St} {x : (Int32 × St)}, rec 0 σ = some x → Ct shM hr yX10_atom cX10_atom 2 (some FieldType.int) (fun G => [.ref (G.2.1 0)]) σ (fun G => some (.int x.1)) x.2) (hrec1 : ∀  {σ : St} {x : (Int32 × St)}, rec 1 σ = some x → Ct shM hr yX10_either cX10_either 3 (some FieldType.int) (fun G => [.ref (G.2.1 0)]) σ (fun G => some (.int x.1)) x.2) (hrec2 : ∀  {σ : St} {x : (Int32 × St)}, rec 2 σ = some x → Ct shM hr yX10_not cX10_not 4 (some FieldType.int) (fun G => [.ref (G.2.1 0)]) σ (fun G => some (.int x.1)) x.2) {l1 : Int32} {s0 : Int32} {σ : St} {x : (Int32 × St)} (h : X10_not_b93 rec l1 s0 σ = some x) : Vw shM G p l e d s m args below meth c 4 A σ 93 [(0, .ref (G.2.1 0)), (1, .int l1)] [.int s0] (some (.int x.1)) x.2 := by
  unfold X10_not_b93 at h
  refine V_istore_n C (lv' := [(2, .int s0), (0, .ref (G.2.1 0)), (1, .int l1)]) dX10_not_93 rfl (by decide) rfl ?_
  refine V_aload_n C 1 dX10_not_94 rfl rfl ?_
  obtain ⟨x95, h95, h⟩ := Option.bind_eq_some_iff.mp h
  refine V_callVv (As := []) C (X10_next_ok h95) mw_X10_next.1 mw_X10_next.2.1 mw_X10_next.2.2 q10_181 oM_0.1 oM_0.2.1 (by decide) rfl rfl (by omega) rfl rfl rfl (Nat.le_of_ble_eq_true rfl) dX10_not_95 ?_
  refine V_aload_n C 1 dX10_not_98 rfl rfl ?_
  obtain ⟨x99, h99, h⟩ := Option.bind_eq_some_iff.mp h
  refine V_callVi (As := []) C (X10_added_ok hH hrec0 hrec1 hrec2 h99) mw_X10_added.1 mw_X10_added.2.1 mw_X10_added.2.2 q10_231 oM_0.1 oM_0.2.1 (by decide) rfl rfl (by omega) rfl rfl rfl (Nat.le_of_ble_eq_true rfl) dX10_not_99 ?_
  refine V_istore_n C (lv' := [(3, .int x99.1), (2, .int s0), (0, .ref (G.2.1 0)), (1, .int l1)]) dX10_not_102 rfl (by decide) rfl ?_
  refine V_iload_n C 1 dX10_not_103 rfl rfl ?_
  by_cases c1 : s0 = 0
  · rw [if_pos c1] at h
    refine V_if_eqT C 115 dX10_not_104 (by decide) c1 ?_
    refine V_iload_n C 3 dX10_not_115 rfl rfl ?_
    refine V_iload_n C 0 dX10_not_116 rfl rfl ?_
    by_cases c2 : l1 = x99.1
    · rw [if_pos c2] at h
      refine V_icmp_neF C 124 dX10_not_117 (by decide) c2 ?_
      refine V_iconst C (w := 1) dX10_not_120 (by decide) ?_
      refine V_goto C 125 dX10_not_121 (by decide) ?_
      obtain rfl := Option.some.inj h
      exact V_iret C rfl rfl dX10_not_125
    · rw [if_neg c2] at h
      refine V_icmp_neT C 124 dX10_not_117 (by decide) c2 ?_
      refine V_iconst C (w := 0) dX10_not_124 (by decide) ?_
      obtain rfl := Option.some.inj h
      exact V_iret C rfl rfl dX10_not_125
  · rw [if_neg c1] at h
    refine V_if_eqF C 115 dX10_not_104 (by decide) c1 ?_
    refine V_iload_n C 3 dX10_not_107 rfl rfl ?_
    refine V_iload_n C 0 dX10_not_108 rfl rfl ?_
    by_cases c3 : x99.1 ≤ l1
    · rw [if_pos c3] at h
      refine V_icmp_geT C 124 dX10_not_109 (by decide) c3 ?_
      refine V_iconst C (w := 0) dX10_not_124 (by decide) ?_
      obtain rfl := Option.some.inj h
      exact V_iret C rfl rfl dX10_not_125
    · rw [if_neg c3] at h
      refine V_icmp_geF C 124 dX10_not_109 (by decide) c3 ?_
      refine V_goto C 120 dX10_not_112 (by decide) ?_
      refine V_iconst C (w := 1) dX10_not_120 (by decide) ?_
      refine V_goto C 125 dX10_not_121 (by decide) ?_
      obtain rfl := Option.some.inj h
      exact V_iret C rfl rfl dX10_not_125
def X10_not_b77 (rec : Nat → St → Option (Int32 × St)) (l1 : Int32) (σ : St) : Option (Int32 × St) := if (lg_cmp σ.2 60) = 0 then (X10_not_b93 rec l1 1 σ) else (X10_not_b93 rec l1 0 σ)
set_option maxRecDepth 100000 in
set_option maxHeartbeats 4000000 in
theorem X10_not_b77_ok {G : Gx} {p : Program} {l : Launch} {e : Env} {d : Nat} {s : State} {m : MethodId} {args : Array Value} {below : List Frame} {meth : Method} {c : Code} {A : Nat → Prop} {hr : Nat} {rec : Nat → St → Option (Int32 × St)} (C : OK shM G p s m args meth c RX10 cX10_not 4 (some FieldType.int) A) (hd : hr + 4 ≤ d) (hH : 5 ≤ hr) (hrec0 : ∀  {σ : St} {x : (Int32 × St)}, rec 0 σ = some x → Ct shM hr yX10_atom cX10_atom 2 (some FieldType.int) (fun G => [.ref (G.2.1 0)]) σ (fun G => some (.int x.1)) x.2) (hrec1 : ∀  {σ : St} {x : (Int32 × St)}, rec 1 σ = some x → Ct shM hr yX10_either cX10_either 3 (some FieldType.int) (fun G => [.ref (G.2.1 0)]) σ (fun G => some (.int x.1)) x.2) (hrec2 : ∀  {σ : St} {x : (Int32 × St)}, rec 2 σ = some x → Ct shM hr yX10_not cX10_not 4 (some FieldType.int) (fun G => [.ref (G.2.1 0)]) σ (fun G => some (.int x.1)) x.2) {l1 : Int32} {σ : St} {x : (Int32 × St)} (h : X10_not_b77 rec l1 σ = some x) : Vw shM G p l e d s m args below meth c 4 A σ 77 [(0, .ref (G.2.1 0)), (1, .int l1)] [] (some (.int x.1)) x.2 := by
  unfold X10_not_b77 at h
  refine V_aload_n C 0 dX10_not_77 rfl rfl ?_
  refine fg10_158 C oM_0 dX10_not_78 ?_
  refine V_ldc2 C (w := 60) dX10_not_81 qk10_234 ?_
  refine V_lcmp C dX10_not_84 ?_
  by_cases c4 : (lg_cmp σ.2 60) = 0
  · rw [if_pos c4] at h
    refine V_if_neF C 92 dX10_not_85 (by decide) c4 ?_
    refine V_iconst C (w := 1) dX10_not_88 (by decide) ?_
    refine V_goto C 93 dX10_not_89 (by decide) ?_
    exact X10_not_b93_ok C hd hH hrec0 hrec1 hrec2 h
  · rw [if_neg c4] at h
    refine V_if_neT C 92 dX10_not_85 (by decide) c4 ?_
    refine V_iconst C (w := 0) dX10_not_92 (by decide) ?_
    exact X10_not_b93_ok C hd hH hrec0 hrec1 hrec2 h
def X10_not (rec : Nat → St → Option (Int32 × St)) (σ : St) : Option (Int32 × St) := (X10_isWord 110 111 116 0 0 0 0 0 σ).bind (fun x12 => if x12 = 0 then ((X10_added rec σ).bind (fun x53 => (X10_isSign 60 x53.2).bind (fun x60 => if x60 = 0 then ((X10_isSign 61 x53.2).bind (fun x69 => if x69 = 0 then (some (x53.1, x53.2)) else (X10_not_b77 rec x53.1 x53.2))) else (X10_not_b77 rec x53.1 x53.2)))) else ((X10_opens σ).bind (fun x19 => if x19.1 = 0 then (some (0, x19.2)) else ((rec 2 x19.2).bind (fun x28 => if x28.1 = 0 then (some (1, (up x28.2 0 24 ((x28.2.1 0 24) - 1)))) else (some (0, (up x28.2 0 24 ((x28.2.1 0 24) - 1)))))))))
set_option maxRecDepth 100000 in
set_option maxHeartbeats 4000000 in
theorem X10_not_ok {hr : Nat} {rec : Nat → St → Option (Int32 × St)} (hH : 5 ≤ hr) (hrec0 : ∀  {σ : St} {x : (Int32 × St)}, rec 0 σ = some x → Ct shM hr yX10_atom cX10_atom 2 (some FieldType.int) (fun G => [.ref (G.2.1 0)]) σ (fun G => some (.int x.1)) x.2) (hrec1 : ∀  {σ : St} {x : (Int32 × St)}, rec 1 σ = some x → Ct shM hr yX10_either cX10_either 3 (some FieldType.int) (fun G => [.ref (G.2.1 0)]) σ (fun G => some (.int x.1)) x.2) (hrec2 : ∀  {σ : St} {x : (Int32 × St)}, rec 2 σ = some x → Ct shM hr yX10_not cX10_not 4 (some FieldType.int) (fun G => [.ref (G.2.1 0)]) σ (fun G => some (.int x.1)) x.2) {σ : St} {x : (Int32 × St)} (h : X10_not rec σ = some x) : Ct shM (hr + 4) yX10_not cX10_not 4 (some FieldType.int) (fun G => [.ref (G.2.1 0)]) σ (fun G => some (.int x.1)) x.2 := by
  refine Ct.of mw_X10_not.1 (by decide +kernel) (fun G => Nat.le_of_ble_eq_true rfl) (fun G p l e d s m args below meth c A hd C => ?_)
  refine (?_ : Vw shM G p l e d s m args below meth c 4 A σ 0 [(0, .ref (G.2.1 0))] [] (some (.int x.1)) x.2)
  unfold X10_not at h
  refine V_aload_n C 0 dX10_not_0 rfl rfl ?_
  refine V_bipush C (w := 110) dX10_not_1 (by decide) ?_
  refine V_bipush C (w := 111) dX10_not_3 (by decide) ?_
  refine V_bipush C (w := 116) dX10_not_5 (by decide) ?_
  refine V_iconst C (w := 0) dX10_not_7 (by decide) ?_
  refine V_iconst C (w := 0) dX10_not_8 (by decide) ?_
  refine V_iconst C (w := 0) dX10_not_9 (by decide) ?_
  refine V_iconst C (w := 0) dX10_not_10 (by decide) ?_
  refine V_iconst C (w := 0) dX10_not_11 (by decide) ?_
  obtain ⟨x12, h12, h⟩ := Option.bind_eq_some_iff.mp h
  refine V_callVi (As := [.int 110, .int 111, .int 116, .int 0, .int 0, .int 0, .int 0, .int 0]) C (X10_isWord_ok h12) mw_X10_isWord.1 mw_X10_isWord.2.1 mw_X10_isWord.2.2 q10_184 oM_0.1 oM_0.2.1 (by decide) rfl rfl (by omega) rfl rfl rfl (Nat.le_of_ble_eq_true rfl) dX10_not_12 ?_
  by_cases c5 : x12 = 0
  · rw [if_pos c5] at h
    refine V_if_eqT C 52 dX10_not_15 (by decide) c5 ?_
    refine V_aload_n C 0 dX10_not_52 rfl rfl ?_
    obtain ⟨x53, h53, h⟩ := Option.bind_eq_some_iff.mp h
    refine V_callVi (As := []) C (X10_added_ok hH hrec0 hrec1 hrec2 h53) mw_X10_added.1 mw_X10_added.2.1 mw_X10_added.2.2 q10_231 oM_0.1 oM_0.2.1 (by decide) rfl rfl (by omega) rfl rfl rfl (Nat.le_of_ble_eq_true rfl) dX10_not_53 ?_
    refine V_istore_n C (lv' := [(1, .int x53.1), (0, .ref (G.2.1 0))]) dX10_not_56 rfl (by decide) rfl ?_
    refine V_aload_n C 1 dX10_not_57 rfl rfl ?_
    refine V_bipush C (w := 60) dX10_not_58 (by decide) ?_
    obtain ⟨x60, h60, h⟩ := Option.bind_eq_some_iff.mp h
    refine V_callVi (As := [.int 60]) C (X10_isSign_ok h60) mw_X10_isSign.1 mw_X10_isSign.2.1 mw_X10_isSign.2.2 q10_206 oM_0.1 oM_0.2.1 (by decide) rfl rfl (by omega) rfl rfl rfl (Nat.le_of_ble_eq_true rfl) dX10_not_60 ?_
    by_cases c6 : x60 = 0
    · rw [if_pos c6] at h
      refine V_if_neF C 77 dX10_not_63 (by decide) c6 ?_
      refine V_aload_n C 1 dX10_not_66 rfl rfl ?_
      refine V_bipush C (w := 61) dX10_not_67 (by decide) ?_
      obtain ⟨x69, h69, h⟩ := Option.bind_eq_some_iff.mp h
      refine V_callVi (As := [.int 61]) C (X10_isSign_ok h69) mw_X10_isSign.1 mw_X10_isSign.2.1 mw_X10_isSign.2.2 q10_206 oM_0.1 oM_0.2.1 (by decide) rfl rfl (by omega) rfl rfl rfl (Nat.le_of_ble_eq_true rfl) dX10_not_69 ?_
      by_cases c7 : x69 = 0
      · rw [if_pos c7] at h
        refine V_if_neF C 77 dX10_not_72 (by decide) c7 ?_
        refine V_iload_n C 0 dX10_not_75 rfl rfl ?_
        obtain rfl := Option.some.inj h
        exact V_iret C rfl rfl dX10_not_76
      · rw [if_neg c7] at h
        refine V_if_neT C 77 dX10_not_72 (by decide) c7 ?_
        refine V_sub (lv' := [(0, .ref (G.2.1 0)), (1, .int x53.1)]) [1, 0] rfl ?_
        exact X10_not_b77_ok C hd hH hrec0 hrec1 hrec2 h
    · rw [if_neg c6] at h
      refine V_if_neT C 77 dX10_not_63 (by decide) c6 ?_
      refine V_sub (lv' := [(0, .ref (G.2.1 0)), (1, .int x53.1)]) [1, 0] rfl ?_
      exact X10_not_b77_ok C hd hH hrec0 hrec1 hrec2 h
  · rw [if_neg c5] at h
    refine V_if_eqF C 52 dX10_not_15 (by decide) c5 ?_
    refine V_aload_n C 0 dX10_not_18 rfl rfl ?_
    obtain ⟨x19, h19, h⟩ := Option.bind_eq_some_iff.mp h
    refine V_callVi (As := []) C (X10_opens_ok h19) mw_X10_opens.1 mw_X10_opens.2.1 mw_X10_opens.2.2 q10_209 oM_0.1 oM_0.2.1 (by decide) rfl rfl (by omega) rfl rfl rfl (Nat.le_of_ble_eq_true rfl) dX10_not_19 ?_
    by_cases c8 : x19.1 = 0
    · rw [if_pos c8] at h
      refine V_if_neF C 27 dX10_not_22 (by decide) c8 ?_
      refine V_iconst C (w := 0) dX10_not_25 (by decide) ?_
      obtain rfl := Option.some.inj h
      exact V_iret C rfl rfl dX10_not_26
    · rw [if_neg c8] at h
      refine V_if_neT C 27 dX10_not_22 (by decide) c8 ?_
      refine V_aload_n C 0 dX10_not_27 rfl rfl ?_
      obtain ⟨x28, h28, h⟩ := Option.bind_eq_some_iff.mp h
      refine V_callVi (As := []) C (hrec2 h28) mw_X10_not.1 mw_X10_not.2.1 mw_X10_not.2.2 q10_228 oM_0.1 oM_0.2.1 (by decide) rfl rfl (by omega) rfl rfl rfl (Nat.le_of_ble_eq_true rfl) dX10_not_28 ?_
      refine V_istore_n C (lv' := [(1, .int x28.1), (0, .ref (G.2.1 0))]) dX10_not_31 rfl (by decide) rfl ?_
      refine V_aload_n C 1 dX10_not_32 rfl rfl ?_
      refine V_dup C dX10_not_33 rfl ?_
      refine fg10_175 C oM_0 dX10_not_34 ?_
      refine V_iconst C (w := 1) dX10_not_37 (by decide) ?_
      refine V_isub C dX10_not_38 ?_
      refine fp10_175 C oM_0 dX10_not_39 ?_
      refine V_iload_n C 0 dX10_not_42 rfl rfl ?_
      by_cases c9 : x28.1 = 0
      · rw [if_pos c9] at h
        refine V_if_neF C 50 dX10_not_43 (by decide) c9 ?_
        refine V_iconst C (w := 1) dX10_not_46 (by decide) ?_
        refine V_goto C 51 dX10_not_47 (by decide) ?_
        obtain rfl := Option.some.inj h
        exact V_iret C rfl rfl dX10_not_51
      · rw [if_neg c9] at h
        refine V_if_neT C 50 dX10_not_43 (by decide) c9 ?_
        refine V_iconst C (w := 0) dX10_not_50 (by decide) ?_
        obtain rfl := Option.some.inj h
        exact V_iret C rfl rfl dX10_not_51
def X10_both_b45 (rec : Nat → St → Option (Int32 × St)) (K5 : Int32 → St → Option (Int32 × St)) (s0 : Int32) (σ : St) : Option (Int32 × St) := K5 s0 σ
set_option maxRecDepth 100000 in
set_option maxHeartbeats 4000000 in
theorem X10_both_b45_ok {G : Gx} {p : Program} {l : Launch} {e : Env} {d : Nat} {s : State} {m : MethodId} {args : Array Value} {below : List Frame} {meth : Method} {c : Code} {A : Nat → Prop} {hr : Nat} {rec : Nat → St → Option (Int32 × St)} {K5 : Int32 → St → Option (Int32 × St)} (C : OK shM G p s m args meth c RX10 cX10_both 3 (some FieldType.int) A) (hd : hr + 5 ≤ d) (hH : 5 ≤ hr) (hrec0 : ∀  {σ : St} {x : (Int32 × St)}, rec 0 σ = some x → Ct shM hr yX10_atom cX10_atom 2 (some FieldType.int) (fun G => [.ref (G.2.1 0)]) σ (fun G => some (.int x.1)) x.2) (hrec1 : ∀  {σ : St} {x : (Int32 × St)}, rec 1 σ = some x → Ct shM hr yX10_either cX10_either 3 (some FieldType.int) (fun G => [.ref (G.2.1 0)]) σ (fun G => some (.int x.1)) x.2) (hrec2 : ∀  {σ : St} {x : (Int32 × St)}, rec 2 σ = some x → Ct shM hr yX10_not cX10_not 4 (some FieldType.int) (fun G => [.ref (G.2.1 0)]) σ (fun G => some (.int x.1)) x.2) (hK5 : ∀  {l1 : Int32} {σ : St} {x : (Int32 × St)}, K5 l1 σ = some x → Vw shM G p l e d s m args below meth c 3 A σ 5 [(0, .ref (G.2.1 0)), (1, .int l1)] [] (some (.int x.1)) x.2) {s0 : Int32} {σ : St} {x : (Int32 × St)} (h : X10_both_b45 rec K5 s0 σ = some x) : Vw shM G p l e d s m args below meth c 3 A σ 45 [(0, .ref (G.2.1 0))] [.int s0] (some (.int x.1)) x.2 := by
  unfold X10_both_b45 at h
  refine V_istore_n C (lv' := [(1, .int s0), (0, .ref (G.2.1 0))]) dX10_both_45 rfl (by decide) rfl ?_
  refine V_goto C 5 dX10_both_46 (by decide) ?_
  refine V_sub (lv' := [(0, .ref (G.2.1 0)), (1, .int s0)]) [1, 0] rfl ?_
  exact hK5 h
def X10_both_b5 (rec : Nat → St → Option (Int32 × St)) : Nat → Int32 → St → Option (Int32 × St)
  | 0, _, _ => none
  | F + 1, l1, σ => (X10_isWord 97 110 100 0 0 0 0 0 σ).bind (fun x17 => if x17 = 0 then (some (l1, σ)) else ((X10_next σ).bind (fun x24 => (X10_not rec x24).bind (fun x28 => if l1 = 0 then (X10_both_b45 rec (X10_both_b5 rec F) 0 x28.2) else (if x28.1 = 0 then (X10_both_b45 rec (X10_both_b5 rec F) 0 x28.2) else (X10_both_b45 rec (X10_both_b5 rec F) 1 x28.2))))))
set_option maxRecDepth 100000 in
set_option maxHeartbeats 4000000 in
theorem X10_both_b5_ok {G : Gx} {p : Program} {l : Launch} {e : Env} {d : Nat} {s : State} {m : MethodId} {args : Array Value} {below : List Frame} {meth : Method} {c : Code} {A : Nat → Prop} {hr : Nat} {rec : Nat → St → Option (Int32 × St)} (C : OK shM G p s m args meth c RX10 cX10_both 3 (some FieldType.int) A) (hd : hr + 5 ≤ d) (hH : 5 ≤ hr) (hrec0 : ∀  {σ : St} {x : (Int32 × St)}, rec 0 σ = some x → Ct shM hr yX10_atom cX10_atom 2 (some FieldType.int) (fun G => [.ref (G.2.1 0)]) σ (fun G => some (.int x.1)) x.2) (hrec1 : ∀  {σ : St} {x : (Int32 × St)}, rec 1 σ = some x → Ct shM hr yX10_either cX10_either 3 (some FieldType.int) (fun G => [.ref (G.2.1 0)]) σ (fun G => some (.int x.1)) x.2) (hrec2 : ∀  {σ : St} {x : (Int32 × St)}, rec 2 σ = some x → Ct shM hr yX10_not cX10_not 4 (some FieldType.int) (fun G => [.ref (G.2.1 0)]) σ (fun G => some (.int x.1)) x.2) : ∀ (F : Nat) {l1 : Int32} {σ : St} {x : (Int32 × St)} (h : X10_both_b5 rec F l1 σ = some x), Vw shM G p l e d s m args below meth c 3 A σ 5 [(0, .ref (G.2.1 0)), (1, .int l1)] [] (some (.int x.1)) x.2 := by
  intro F
  induction F with
  | zero =>
    intro l1 σ x h
    rw [X10_both_b5] at h
    cases h
  | succ F ih =>
    intro l1 σ x h
    rw [X10_both_b5] at h
    refine V_aload_n C 0 dX10_both_5 rfl rfl ?_
    refine V_bipush C (w := 97) dX10_both_6 (by decide) ?_
    refine V_bipush C (w := 110) dX10_both_8 (by decide) ?_
    refine V_bipush C (w := 100) dX10_both_10 (by decide) ?_
    refine V_iconst C (w := 0) dX10_both_12 (by decide) ?_
    refine V_iconst C (w := 0) dX10_both_13 (by decide) ?_
    refine V_iconst C (w := 0) dX10_both_14 (by decide) ?_
    refine V_iconst C (w := 0) dX10_both_15 (by decide) ?_
    refine V_iconst C (w := 0) dX10_both_16 (by decide) ?_
    obtain ⟨x17, h17, h⟩ := Option.bind_eq_some_iff.mp h
    refine V_callVi (As := [.int 97, .int 110, .int 100, .int 0, .int 0, .int 0, .int 0, .int 0]) C (X10_isWord_ok h17) mw_X10_isWord.1 mw_X10_isWord.2.1 mw_X10_isWord.2.2 q10_184 oM_0.1 oM_0.2.1 (by decide) rfl rfl (by omega) rfl rfl rfl (Nat.le_of_ble_eq_true rfl) dX10_both_17 ?_
    by_cases c1 : x17 = 0
    · rw [if_pos c1] at h
      refine V_if_eqT C 49 dX10_both_20 (by decide) c1 ?_
      refine V_iload_n C 1 dX10_both_49 rfl rfl ?_
      obtain rfl := Option.some.inj h
      exact V_iret C rfl rfl dX10_both_50
    · rw [if_neg c1] at h
      refine V_if_eqF C 49 dX10_both_20 (by decide) c1 ?_
      refine V_aload_n C 0 dX10_both_23 rfl rfl ?_
      obtain ⟨x24, h24, h⟩ := Option.bind_eq_some_iff.mp h
      refine V_callVv (As := []) C (X10_next_ok h24) mw_X10_next.1 mw_X10_next.2.1 mw_X10_next.2.2 q10_181 oM_0.1 oM_0.2.1 (by decide) rfl rfl (by omega) rfl rfl rfl (Nat.le_of_ble_eq_true rfl) dX10_both_24 ?_
      refine V_aload_n C 0 dX10_both_27 rfl rfl ?_
      obtain ⟨x28, h28, h⟩ := Option.bind_eq_some_iff.mp h
      refine V_callVi (As := []) C (X10_not_ok hH hrec0 hrec1 hrec2 h28) mw_X10_not.1 mw_X10_not.2.1 mw_X10_not.2.2 q10_228 oM_0.1 oM_0.2.1 (by decide) rfl rfl (by omega) rfl rfl rfl (Nat.le_of_ble_eq_true rfl) dX10_both_28 ?_
      refine V_istore_n C (lv' := [(2, .int x28.1), (0, .ref (G.2.1 0)), (1, .int l1)]) dX10_both_31 rfl (by decide) rfl ?_
      refine V_iload_n C 2 dX10_both_32 rfl rfl ?_
      by_cases c2 : l1 = 0
      · rw [if_pos c2] at h
        refine V_if_eqT C 44 dX10_both_33 (by decide) c2 ?_
        refine V_iconst C (w := 0) dX10_both_44 (by decide) ?_
        refine V_sub (lv' := [(0, .ref (G.2.1 0))]) [1] rfl ?_
        exact X10_both_b45_ok C hd hH hrec0 hrec1 hrec2 (fun h => ih h) h
      · rw [if_neg c2] at h
        refine V_if_eqF C 44 dX10_both_33 (by decide) c2 ?_
        refine V_iload_n C 0 dX10_both_36 rfl rfl ?_
        by_cases c3 : x28.1 = 0
        · rw [if_pos c3] at h
          refine V_if_eqT C 44 dX10_both_37 (by decide) c3 ?_
          refine V_iconst C (w := 0) dX10_both_44 (by decide) ?_
          refine V_sub (lv' := [(0, .ref (G.2.1 0))]) [1] rfl ?_
          exact X10_both_b45_ok C hd hH hrec0 hrec1 hrec2 (fun h => ih h) h
        · rw [if_neg c3] at h
          refine V_if_eqF C 44 dX10_both_37 (by decide) c3 ?_
          refine V_iconst C (w := 1) dX10_both_40 (by decide) ?_
          refine V_goto C 45 dX10_both_41 (by decide) ?_
          refine V_sub (lv' := [(0, .ref (G.2.1 0))]) [1] rfl ?_
          exact X10_both_b45_ok C hd hH hrec0 hrec1 hrec2 (fun h => ih h) h
def X10_both (rec : Nat → St → Option (Int32 × St)) (σ : St) : Option (Int32 × St) := (X10_not rec σ).bind (fun x1 => X10_both_b5 rec FU x1.1 x1.2)
set_option maxRecDepth 100000 in
set_option maxHeartbeats 4000000 in
theorem X10_both_ok {hr : Nat} {rec : Nat → St → Option (Int32 × St)} (hH : 5 ≤ hr) (hrec0 : ∀  {σ : St} {x : (Int32 × St)}, rec 0 σ = some x → Ct shM hr yX10_atom cX10_atom 2 (some FieldType.int) (fun G => [.ref (G.2.1 0)]) σ (fun G => some (.int x.1)) x.2) (hrec1 : ∀  {σ : St} {x : (Int32 × St)}, rec 1 σ = some x → Ct shM hr yX10_either cX10_either 3 (some FieldType.int) (fun G => [.ref (G.2.1 0)]) σ (fun G => some (.int x.1)) x.2) (hrec2 : ∀  {σ : St} {x : (Int32 × St)}, rec 2 σ = some x → Ct shM hr yX10_not cX10_not 4 (some FieldType.int) (fun G => [.ref (G.2.1 0)]) σ (fun G => some (.int x.1)) x.2) {σ : St} {x : (Int32 × St)} (h : X10_both rec σ = some x) : Ct shM (hr + 5) yX10_both cX10_both 3 (some FieldType.int) (fun G => [.ref (G.2.1 0)]) σ (fun G => some (.int x.1)) x.2 := by
  refine Ct.of mw_X10_both.1 (by decide +kernel) (fun G => Nat.le_of_ble_eq_true rfl) (fun G p l e d s m args below meth c A hd C => ?_)
  refine (?_ : Vw shM G p l e d s m args below meth c 3 A σ 0 [(0, .ref (G.2.1 0))] [] (some (.int x.1)) x.2)
  unfold X10_both at h
  refine V_aload_n C 0 dX10_both_0 rfl rfl ?_
  obtain ⟨x1, h1, h⟩ := Option.bind_eq_some_iff.mp h
  refine V_callVi (As := []) C (X10_not_ok hH hrec0 hrec1 hrec2 h1) mw_X10_not.1 mw_X10_not.2.1 mw_X10_not.2.2 q10_228 oM_0.1 oM_0.2.1 (by decide) rfl rfl (by omega) rfl rfl rfl (Nat.le_of_ble_eq_true rfl) dX10_both_1 ?_
  refine V_istore_n C (lv' := [(1, .int x1.1), (0, .ref (G.2.1 0))]) dX10_both_4 rfl (by decide) rfl ?_
  refine V_sub (lv' := [(0, .ref (G.2.1 0)), (1, .int x1.1)]) [1, 0] rfl ?_
  exact X10_both_b5_ok C hd hH hrec0 hrec1 hrec2 FU h
def X10_either_b44 (rec : Nat → St → Option (Int32 × St)) (K5 : Int32 → St → Option (Int32 × St)) (s0 : Int32) (σ : St) : Option (Int32 × St) := K5 s0 σ
set_option maxRecDepth 100000 in
set_option maxHeartbeats 4000000 in
theorem X10_either_b44_ok {G : Gx} {p : Program} {l : Launch} {e : Env} {d : Nat} {s : State} {m : MethodId} {args : Array Value} {below : List Frame} {meth : Method} {c : Code} {A : Nat → Prop} {hr : Nat} {rec : Nat → St → Option (Int32 × St)} {K5 : Int32 → St → Option (Int32 × St)} (C : OK shM G p s m args meth c RX10 cX10_either 3 (some FieldType.int) A) (hd : hr + 6 ≤ d) (hH : 5 ≤ hr) (hrec0 : ∀  {σ : St} {x : (Int32 × St)}, rec 0 σ = some x → Ct shM hr yX10_atom cX10_atom 2 (some FieldType.int) (fun G => [.ref (G.2.1 0)]) σ (fun G => some (.int x.1)) x.2) (hrec1 : ∀  {σ : St} {x : (Int32 × St)}, rec 1 σ = some x → Ct shM hr yX10_either cX10_either 3 (some FieldType.int) (fun G => [.ref (G.2.1 0)]) σ (fun G => some (.int x.1)) x.2) (hrec2 : ∀  {σ : St} {x : (Int32 × St)}, rec 2 σ = some x → Ct shM hr yX10_not cX10_not 4 (some FieldType.int) (fun G => [.ref (G.2.1 0)]) σ (fun G => some (.int x.1)) x.2) (hK5 : ∀  {l1 : Int32} {σ : St} {x : (Int32 × St)}, K5 l1 σ = some x → Vw shM G p l e d s m args below meth c 3 A σ 5 [(0, .ref (G.2.1 0)), (1, .int l1)] [] (some (.int x.1)) x.2) {s0 : Int32} {σ : St} {x : (Int32 × St)} (h : X10_either_b44 rec K5 s0 σ = some x) : Vw shM G p l e d s m args below meth c 3 A σ 44 [(0, .ref (G.2.1 0))] [.int s0] (some (.int x.1)) x.2 := by
  unfold X10_either_b44 at h
  refine V_istore_n C (lv' := [(1, .int s0), (0, .ref (G.2.1 0))]) dX10_either_44 rfl (by decide) rfl ?_
  refine V_goto C 5 dX10_either_45 (by decide) ?_
  refine V_sub (lv' := [(0, .ref (G.2.1 0)), (1, .int s0)]) [1, 0] rfl ?_
  exact hK5 h
def X10_either_b5 (rec : Nat → St → Option (Int32 × St)) : Nat → Int32 → St → Option (Int32 × St)
  | 0, _, _ => none
  | F + 1, l1, σ => (X10_isWord 111 114 0 0 0 0 0 0 σ).bind (fun x16 => if x16 = 0 then (some (l1, σ)) else ((X10_next σ).bind (fun x23 => (X10_both rec x23).bind (fun x27 => if l1 = 0 then (if x27.1 = 0 then (X10_either_b44 rec (X10_either_b5 rec F) 0 x27.2) else (X10_either_b44 rec (X10_either_b5 rec F) 1 x27.2)) else (X10_either_b44 rec (X10_either_b5 rec F) 1 x27.2)))))
set_option maxRecDepth 100000 in
set_option maxHeartbeats 4000000 in
theorem X10_either_b5_ok {G : Gx} {p : Program} {l : Launch} {e : Env} {d : Nat} {s : State} {m : MethodId} {args : Array Value} {below : List Frame} {meth : Method} {c : Code} {A : Nat → Prop} {hr : Nat} {rec : Nat → St → Option (Int32 × St)} (C : OK shM G p s m args meth c RX10 cX10_either 3 (some FieldType.int) A) (hd : hr + 6 ≤ d) (hH : 5 ≤ hr) (hrec0 : ∀  {σ : St} {x : (Int32 × St)}, rec 0 σ = some x → Ct shM hr yX10_atom cX10_atom 2 (some FieldType.int) (fun G => [.ref (G.2.1 0)]) σ (fun G => some (.int x.1)) x.2) (hrec1 : ∀  {σ : St} {x : (Int32 × St)}, rec 1 σ = some x → Ct shM hr yX10_either cX10_either 3 (some FieldType.int) (fun G => [.ref (G.2.1 0)]) σ (fun G => some (.int x.1)) x.2) (hrec2 : ∀  {σ : St} {x : (Int32 × St)}, rec 2 σ = some x → Ct shM hr yX10_not cX10_not 4 (some FieldType.int) (fun G => [.ref (G.2.1 0)]) σ (fun G => some (.int x.1)) x.2) : ∀ (F : Nat) {l1 : Int32} {σ : St} {x : (Int32 × St)} (h : X10_either_b5 rec F l1 σ = some x), Vw shM G p l e d s m args below meth c 3 A σ 5 [(0, .ref (G.2.1 0)), (1, .int l1)] [] (some (.int x.1)) x.2 := by
  intro F
  induction F with
  | zero =>
    intro l1 σ x h
    rw [X10_either_b5] at h
    cases h
  | succ F ih =>
    intro l1 σ x h
    rw [X10_either_b5] at h
    refine V_aload_n C 0 dX10_either_5 rfl rfl ?_
    refine V_bipush C (w := 111) dX10_either_6 (by decide) ?_
    refine V_bipush C (w := 114) dX10_either_8 (by decide) ?_
    refine V_iconst C (w := 0) dX10_either_10 (by decide) ?_
    refine V_iconst C (w := 0) dX10_either_11 (by decide) ?_
    refine V_iconst C (w := 0) dX10_either_12 (by decide) ?_
    refine V_iconst C (w := 0) dX10_either_13 (by decide) ?_
    refine V_iconst C (w := 0) dX10_either_14 (by decide) ?_
    refine V_iconst C (w := 0) dX10_either_15 (by decide) ?_
    obtain ⟨x16, h16, h⟩ := Option.bind_eq_some_iff.mp h
    refine V_callVi (As := [.int 111, .int 114, .int 0, .int 0, .int 0, .int 0, .int 0, .int 0]) C (X10_isWord_ok h16) mw_X10_isWord.1 mw_X10_isWord.2.1 mw_X10_isWord.2.2 q10_184 oM_0.1 oM_0.2.1 (by decide) rfl rfl (by omega) rfl rfl rfl (Nat.le_of_ble_eq_true rfl) dX10_either_16 ?_
    by_cases c1 : x16 = 0
    · rw [if_pos c1] at h
      refine V_if_eqT C 48 dX10_either_19 (by decide) c1 ?_
      refine V_iload_n C 1 dX10_either_48 rfl rfl ?_
      obtain rfl := Option.some.inj h
      exact V_iret C rfl rfl dX10_either_49
    · rw [if_neg c1] at h
      refine V_if_eqF C 48 dX10_either_19 (by decide) c1 ?_
      refine V_aload_n C 0 dX10_either_22 rfl rfl ?_
      obtain ⟨x23, h23, h⟩ := Option.bind_eq_some_iff.mp h
      refine V_callVv (As := []) C (X10_next_ok h23) mw_X10_next.1 mw_X10_next.2.1 mw_X10_next.2.2 q10_181 oM_0.1 oM_0.2.1 (by decide) rfl rfl (by omega) rfl rfl rfl (Nat.le_of_ble_eq_true rfl) dX10_either_23 ?_
      refine V_aload_n C 0 dX10_either_26 rfl rfl ?_
      obtain ⟨x27, h27, h⟩ := Option.bind_eq_some_iff.mp h
      refine V_callVi (As := []) C (X10_both_ok hH hrec0 hrec1 hrec2 h27) mw_X10_both.1 mw_X10_both.2.1 mw_X10_both.2.2 q10_236 oM_0.1 oM_0.2.1 (by decide) rfl rfl (by omega) rfl rfl rfl (Nat.le_of_ble_eq_true rfl) dX10_either_27 ?_
      refine V_istore_n C (lv' := [(2, .int x27.1), (0, .ref (G.2.1 0)), (1, .int l1)]) dX10_either_30 rfl (by decide) rfl ?_
      refine V_iload_n C 2 dX10_either_31 rfl rfl ?_
      by_cases c2 : l1 = 0
      · rw [if_pos c2] at h
        refine V_if_neF C 39 dX10_either_32 (by decide) c2 ?_
        refine V_iload_n C 0 dX10_either_35 rfl rfl ?_
        by_cases c3 : x27.1 = 0
        · rw [if_pos c3] at h
          refine V_if_eqT C 43 dX10_either_36 (by decide) c3 ?_
          refine V_iconst C (w := 0) dX10_either_43 (by decide) ?_
          refine V_sub (lv' := [(0, .ref (G.2.1 0))]) [1] rfl ?_
          exact X10_either_b44_ok C hd hH hrec0 hrec1 hrec2 (fun h => ih h) h
        · rw [if_neg c3] at h
          refine V_if_eqF C 43 dX10_either_36 (by decide) c3 ?_
          refine V_iconst C (w := 1) dX10_either_39 (by decide) ?_
          refine V_goto C 44 dX10_either_40 (by decide) ?_
          refine V_sub (lv' := [(0, .ref (G.2.1 0))]) [1] rfl ?_
          exact X10_either_b44_ok C hd hH hrec0 hrec1 hrec2 (fun h => ih h) h
      · rw [if_neg c2] at h
        refine V_if_neT C 39 dX10_either_32 (by decide) c2 ?_
        refine V_iconst C (w := 1) dX10_either_39 (by decide) ?_
        refine V_goto C 44 dX10_either_40 (by decide) ?_
        refine V_sub (lv' := [(0, .ref (G.2.1 0))]) [1] rfl ?_
        exact X10_either_b44_ok C hd hH hrec0 hrec1 hrec2 (fun h => ih h) h
def X10_either (rec : Nat → St → Option (Int32 × St)) (σ : St) : Option (Int32 × St) := (X10_both rec σ).bind (fun x1 => X10_either_b5 rec FU x1.1 x1.2)
set_option maxRecDepth 100000 in
set_option maxHeartbeats 4000000 in
theorem X10_either_ok {hr : Nat} {rec : Nat → St → Option (Int32 × St)} (hH : 5 ≤ hr) (hrec0 : ∀  {σ : St} {x : (Int32 × St)}, rec 0 σ = some x → Ct shM hr yX10_atom cX10_atom 2 (some FieldType.int) (fun G => [.ref (G.2.1 0)]) σ (fun G => some (.int x.1)) x.2) (hrec1 : ∀  {σ : St} {x : (Int32 × St)}, rec 1 σ = some x → Ct shM hr yX10_either cX10_either 3 (some FieldType.int) (fun G => [.ref (G.2.1 0)]) σ (fun G => some (.int x.1)) x.2) (hrec2 : ∀  {σ : St} {x : (Int32 × St)}, rec 2 σ = some x → Ct shM hr yX10_not cX10_not 4 (some FieldType.int) (fun G => [.ref (G.2.1 0)]) σ (fun G => some (.int x.1)) x.2) {σ : St} {x : (Int32 × St)} (h : X10_either rec σ = some x) : Ct shM (hr + 6) yX10_either cX10_either 3 (some FieldType.int) (fun G => [.ref (G.2.1 0)]) σ (fun G => some (.int x.1)) x.2 := by
  refine Ct.of mw_X10_either.1 (by decide +kernel) (fun G => Nat.le_of_ble_eq_true rfl) (fun G p l e d s m args below meth c A hd C => ?_)
  refine (?_ : Vw shM G p l e d s m args below meth c 3 A σ 0 [(0, .ref (G.2.1 0))] [] (some (.int x.1)) x.2)
  unfold X10_either at h
  refine V_aload_n C 0 dX10_either_0 rfl rfl ?_
  obtain ⟨x1, h1, h⟩ := Option.bind_eq_some_iff.mp h
  refine V_callVi (As := []) C (X10_both_ok hH hrec0 hrec1 hrec2 h1) mw_X10_both.1 mw_X10_both.2.1 mw_X10_both.2.2 q10_236 oM_0.1 oM_0.2.1 (by decide) rfl rfl (by omega) rfl rfl rfl (Nat.le_of_ble_eq_true rfl) dX10_either_1 ?_
  refine V_istore_n C (lv' := [(1, .int x1.1), (0, .ref (G.2.1 0))]) dX10_either_4 rfl (by decide) rfl ?_
  refine V_sub (lv' := [(0, .ref (G.2.1 0)), (1, .int x1.1)]) [1, 0] rfl ?_
  exact X10_either_b5_ok C hd hH hrec0 hrec1 hrec2 FU h
def md_K : Nat → Nat → St → Option (Int32 × St)
  | 0, _, _ => none
  | n + 1, t, σ => if t = 0 then X10_atom (md_K n) σ else if t = 1 then X10_either (md_K n) σ else X10_not (md_K n) σ
theorem md_K_ok : ∀ n : Nat, (∀  {σ : St} {x : (Int32 × St)}, md_K n 0 σ = some x → Ct shM (5 + 6 * n) yX10_atom cX10_atom 2 (some FieldType.int) (fun G => [.ref (G.2.1 0)]) σ (fun G => some (.int x.1)) x.2) ∧ (∀  {σ : St} {x : (Int32 × St)}, md_K n 1 σ = some x → Ct shM (5 + 6 * n) yX10_either cX10_either 3 (some FieldType.int) (fun G => [.ref (G.2.1 0)]) σ (fun G => some (.int x.1)) x.2) ∧ (∀  {σ : St} {x : (Int32 × St)}, md_K n 2 σ = some x → Ct shM (5 + 6 * n) yX10_not cX10_not 4 (some FieldType.int) (fun G => [.ref (G.2.1 0)]) σ (fun G => some (.int x.1)) x.2) := by
  intro n
  induction n with
  | zero => refine ⟨fun h => (by cases h), fun h => (by cases h), fun h => (by cases h)⟩
  | succ n ih =>
    refine ⟨fun h => Ct.mono (show 5 + 6 * n + 1 ≤ 5 + 6 * (n + 1) by omega) (X10_atom_ok (hr := 5 + 6 * n) (rec := md_K n) (by omega) ih.1 ih.2.1 ih.2.2 (by simpa [md_K] using h)), fun h => Ct.mono (show 5 + 6 * n + 6 ≤ 5 + 6 * (n + 1) by omega) (X10_either_ok (hr := 5 + 6 * n) (rec := md_K n) (by omega) ih.1 ih.2.1 ih.2.2 (by simpa [md_K] using h)), fun h => Ct.mono (show 5 + 6 * n + 4 ≤ 5 + 6 * (n + 1) by omega) (X10_not_ok (hr := 5 + 6 * n) (rec := md_K n) (by omega) ih.1 ih.2.1 ih.2.2 (by simpa [md_K] using h))⟩
theorem X10_atom_okK {σ : St} {x : (Int32 × St)} (h : X10_atom (md_K FR) σ = some x) : Ct shM 54 yX10_atom cX10_atom 2 (some FieldType.int) (fun G => [.ref (G.2.1 0)]) σ (fun G => some (.int x.1)) x.2 := Ct.mono (show 5 + 6 * FR + 1 ≤ 54 by decide) (X10_atom_ok (hr := 5 + 6 * FR) (by omega) (md_K_ok FR).1 (md_K_ok FR).2.1 (md_K_ok FR).2.2 h)
theorem X10_term_okK {σ : St} {x : (Int32 × St)} (h : X10_term (md_K FR) σ = some x) : Ct shM 55 yX10_term cX10_term 2 (some FieldType.int) (fun G => [.ref (G.2.1 0)]) σ (fun G => some (.int x.1)) x.2 := Ct.mono (show 5 + 6 * FR + 2 ≤ 55 by decide) (X10_term_ok (hr := 5 + 6 * FR) (by omega) (md_K_ok FR).1 (md_K_ok FR).2.1 (md_K_ok FR).2.2 h)
theorem X10_added_okK {σ : St} {x : (Int32 × St)} (h : X10_added (md_K FR) σ = some x) : Ct shM 56 yX10_added cX10_added 4 (some FieldType.int) (fun G => [.ref (G.2.1 0)]) σ (fun G => some (.int x.1)) x.2 := Ct.mono (show 5 + 6 * FR + 3 ≤ 56 by decide) (X10_added_ok (hr := 5 + 6 * FR) (by omega) (md_K_ok FR).1 (md_K_ok FR).2.1 (md_K_ok FR).2.2 h)
theorem X10_not_okK {σ : St} {x : (Int32 × St)} (h : X10_not (md_K FR) σ = some x) : Ct shM 57 yX10_not cX10_not 4 (some FieldType.int) (fun G => [.ref (G.2.1 0)]) σ (fun G => some (.int x.1)) x.2 := Ct.mono (show 5 + 6 * FR + 4 ≤ 57 by decide) (X10_not_ok (hr := 5 + 6 * FR) (by omega) (md_K_ok FR).1 (md_K_ok FR).2.1 (md_K_ok FR).2.2 h)
theorem X10_both_okK {σ : St} {x : (Int32 × St)} (h : X10_both (md_K FR) σ = some x) : Ct shM 58 yX10_both cX10_both 3 (some FieldType.int) (fun G => [.ref (G.2.1 0)]) σ (fun G => some (.int x.1)) x.2 := Ct.mono (show 5 + 6 * FR + 5 ≤ 58 by decide) (X10_both_ok (hr := 5 + 6 * FR) (by omega) (md_K_ok FR).1 (md_K_ok FR).2.1 (md_K_ok FR).2.2 h)
theorem X10_either_okK {σ : St} {x : (Int32 × St)} (h : X10_either (md_K FR) σ = some x) : Ct shM 59 yX10_either cX10_either 3 (some FieldType.int) (fun G => [.ref (G.2.1 0)]) σ (fun G => some (.int x.1)) x.2 := Ct.mono (show 5 + 6 * FR + 6 ≤ 59 by decide) (X10_either_ok (hr := 5 + 6 * FR) (by omega) (md_K_ok FR).1 (md_K_ok FR).2.1 (md_K_ok FR).2.2 h)
def X10_part_b48 (l2 : Int32) (σ : St) : Option (Int32 × St) := if (σ.1 0 25) = 0 then ((X10_next σ).bind (fun x56 => some (l2, x56))) else (some (l2, σ))
set_option maxRecDepth 100000 in
set_option maxHeartbeats 4000000 in
theorem X10_part_b48_ok {G : Gx} {p : Program} {l : Launch} {e : Env} {d : Nat} {s : State} {m : MethodId} {args : Array Value} {below : List Frame} {meth : Method} {c : Code} {A : Nat → Prop} (C : OK shM G p s m args meth c RX10 cX10_part 3 (some FieldType.int) A) (hd : 60 ≤ d) {l2 : Int32} {σ : St} {x : (Int32 × St)} (h : X10_part_b48 l2 σ = some x) : Vw shM G p l e d s m args below meth c 3 A σ 48 [(0, .ref (G.2.1 0)), (2, .int l2)] [] (some (.int x.1)) x.2 := by
  unfold X10_part_b48 at h
  refine V_aload_n C 0 dX10_part_48 rfl rfl ?_
  refine fg10_164 C oM_0 dX10_part_49 ?_
  by_cases c1 : (σ.1 0 25) = 0
  · rw [if_pos c1] at h
    refine V_if_neF C 59 dX10_part_52 (by decide) c1 ?_
    refine V_aload_n C 0 dX10_part_55 rfl rfl ?_
    obtain ⟨x56, h56, h⟩ := Option.bind_eq_some_iff.mp h
    refine V_callVv (As := []) C (X10_next_ok h56) mw_X10_next.1 mw_X10_next.2.1 mw_X10_next.2.2 q10_181 oM_0.1 oM_0.2.1 (by decide) rfl rfl (by omega) rfl rfl rfl (Nat.le_of_ble_eq_true rfl) dX10_part_56 ?_
    refine V_iload_n C 1 dX10_part_59 rfl rfl ?_
    obtain rfl := Option.some.inj h
    exact V_iret C rfl rfl dX10_part_60
  · rw [if_neg c1] at h
    refine V_if_neT C 59 dX10_part_52 (by decide) c1 ?_
    refine V_iload_n C 1 dX10_part_59 rfl rfl ?_
    obtain rfl := Option.some.inj h
    exact V_iret C rfl rfl dX10_part_60
def X10_part_b34 (s0 : Int32) (σ : St) : Option (Int32 × St) := (X10_isSign 59 σ).bind (fun x38 => if x38 = 0 then ((X10_fail σ).bind (fun x45 => X10_part_b48 s0 x45)) else (X10_part_b48 s0 σ))
set_option maxRecDepth 100000 in
set_option maxHeartbeats 4000000 in
theorem X10_part_b34_ok {G : Gx} {p : Program} {l : Launch} {e : Env} {d : Nat} {s : State} {m : MethodId} {args : Array Value} {below : List Frame} {meth : Method} {c : Code} {A : Nat → Prop} (C : OK shM G p s m args meth c RX10 cX10_part 3 (some FieldType.int) A) (hd : 60 ≤ d) {s0 : Int32} {σ : St} {x : (Int32 × St)} (h : X10_part_b34 s0 σ = some x) : Vw shM G p l e d s m args below meth c 3 A σ 34 [(0, .ref (G.2.1 0))] [.int s0] (some (.int x.1)) x.2 := by
  unfold X10_part_b34 at h
  refine V_istore_n C (lv' := [(2, .int s0), (0, .ref (G.2.1 0))]) dX10_part_34 rfl (by decide) rfl ?_
  refine V_aload_n C 1 dX10_part_35 rfl rfl ?_
  refine V_bipush C (w := 59) dX10_part_36 (by decide) ?_
  obtain ⟨x38, h38, h⟩ := Option.bind_eq_some_iff.mp h
  refine V_callVi (As := [.int 59]) C (X10_isSign_ok h38) mw_X10_isSign.1 mw_X10_isSign.2.1 mw_X10_isSign.2.2 q10_206 oM_0.1 oM_0.2.1 (by decide) rfl rfl (by omega) rfl rfl rfl (Nat.le_of_ble_eq_true rfl) dX10_part_38 ?_
  by_cases c2 : x38 = 0
  · rw [if_pos c2] at h
    refine V_if_neF C 48 dX10_part_41 (by decide) c2 ?_
    refine V_aload_n C 1 dX10_part_44 rfl rfl ?_
    obtain ⟨x45, h45, h⟩ := Option.bind_eq_some_iff.mp h
    refine V_callVv (As := []) C (X10_fail_ok h45) mw_X10_fail.1 mw_X10_fail.2.1 mw_X10_fail.2.2 q10_178 oM_0.1 oM_0.2.1 (by decide) rfl rfl (by omega) rfl rfl rfl (Nat.le_of_ble_eq_true rfl) dX10_part_45 ?_
    refine V_sub (lv' := [(0, .ref (G.2.1 0)), (2, .int s0)]) [1, 0] rfl ?_
    exact X10_part_b48_ok C hd h
  · rw [if_neg c2] at h
    refine V_if_neT C 48 dX10_part_41 (by decide) c2 ?_
    refine V_sub (lv' := [(0, .ref (G.2.1 0)), (2, .int s0)]) [1, 0] rfl ?_
    exact X10_part_b48_ok C hd h
def X10_part_b19 (σ : St) : Option (Int32 × St) := if (σ.1 0 25) = 0 then ((X10_either (md_K FR) σ).bind (fun x31 => X10_part_b34 x31.1 x31.2)) else (X10_part_b34 0 σ)
set_option maxRecDepth 100000 in
set_option maxHeartbeats 4000000 in
theorem X10_part_b19_ok {G : Gx} {p : Program} {l : Launch} {e : Env} {d : Nat} {s : State} {m : MethodId} {args : Array Value} {below : List Frame} {meth : Method} {c : Code} {A : Nat → Prop} (C : OK shM G p s m args meth c RX10 cX10_part 3 (some FieldType.int) A) (hd : 60 ≤ d) {σ : St} {x : (Int32 × St)} (h : X10_part_b19 σ = some x) : Vw shM G p l e d s m args below meth c 3 A σ 19 [(0, .ref (G.2.1 0))] [] (some (.int x.1)) x.2 := by
  unfold X10_part_b19 at h
  refine V_aload_n C 0 dX10_part_19 rfl rfl ?_
  refine fg10_164 C oM_0 dX10_part_20 ?_
  by_cases c3 : (σ.1 0 25) = 0
  · rw [if_pos c3] at h
    refine V_if_eqT C 30 dX10_part_23 (by decide) c3 ?_
    refine V_aload_n C 0 dX10_part_30 rfl rfl ?_
    obtain ⟨x31, h31, h⟩ := Option.bind_eq_some_iff.mp h
    refine V_callVi (As := []) C (X10_either_okK h31) mw_X10_either.1 mw_X10_either.2.1 mw_X10_either.2.2 q10_217 oM_0.1 oM_0.2.1 (by decide) rfl rfl (by omega) rfl rfl rfl (Nat.le_of_ble_eq_true rfl) dX10_part_31 ?_
    exact X10_part_b34_ok C hd h
  · rw [if_neg c3] at h
    refine V_if_eqF C 30 dX10_part_23 (by decide) c3 ?_
    refine V_iconst C (w := 0) dX10_part_26 (by decide) ?_
    refine V_goto C 34 dX10_part_27 (by decide) ?_
    exact X10_part_b34_ok C hd h
def X10_part_b8 (σ : St) : Option (Int32 × St) := if (σ.1 0 25) = 0 then ((X10_next σ).bind (fun x16 => X10_part_b19 x16)) else (X10_part_b19 σ)
set_option maxRecDepth 100000 in
set_option maxHeartbeats 4000000 in
theorem X10_part_b8_ok {G : Gx} {p : Program} {l : Launch} {e : Env} {d : Nat} {s : State} {m : MethodId} {args : Array Value} {below : List Frame} {meth : Method} {c : Code} {A : Nat → Prop} (C : OK shM G p s m args meth c RX10 cX10_part 3 (some FieldType.int) A) (hd : 60 ≤ d) {σ : St} {x : (Int32 × St)} (h : X10_part_b8 σ = some x) : Vw shM G p l e d s m args below meth c 3 A σ 8 [(0, .ref (G.2.1 0))] [] (some (.int x.1)) x.2 := by
  unfold X10_part_b8 at h
  refine V_aload_n C 0 dX10_part_8 rfl rfl ?_
  refine fg10_164 C oM_0 dX10_part_9 ?_
  by_cases c4 : (σ.1 0 25) = 0
  · rw [if_pos c4] at h
    refine V_if_neF C 19 dX10_part_12 (by decide) c4 ?_
    refine V_aload_n C 0 dX10_part_15 rfl rfl ?_
    obtain ⟨x16, h16, h⟩ := Option.bind_eq_some_iff.mp h
    refine V_callVv (As := []) C (X10_next_ok h16) mw_X10_next.1 mw_X10_next.2.1 mw_X10_next.2.2 q10_181 oM_0.1 oM_0.2.1 (by decide) rfl rfl (by omega) rfl rfl rfl (Nat.le_of_ble_eq_true rfl) dX10_part_16 ?_
    exact X10_part_b19_ok C hd h
  · rw [if_neg c4] at h
    refine V_if_neT C 19 dX10_part_12 (by decide) c4 ?_
    exact X10_part_b19_ok C hd h
def X10_part (l1 : Int32) (σ : St) : Option (Int32 × St) := if l1 = 0 then ((X10_fail σ).bind (fun x5 => X10_part_b8 x5)) else (X10_part_b8 σ)
set_option maxRecDepth 100000 in
set_option maxHeartbeats 4000000 in
theorem X10_part_ok {l1 : Int32} {σ : St} {x : (Int32 × St)} (h : X10_part l1 σ = some x) : Ct shM (60) yX10_part cX10_part 3 (some FieldType.int) (fun G => [.ref (G.2.1 0), .int l1]) σ (fun G => some (.int x.1)) x.2 := by
  refine Ct.of mw_X10_part.1 (by decide +kernel) (fun G => Nat.le_of_ble_eq_true rfl) (fun G p l e d s m args below meth c A hd C => ?_)
  refine (?_ : Vw shM G p l e d s m args below meth c 3 A σ 0 [(0, .ref (G.2.1 0)), (1, .int l1)] [] (some (.int x.1)) x.2)
  unfold X10_part at h
  refine V_iload_n C 1 dX10_part_0 rfl rfl ?_
  by_cases c5 : l1 = 0
  · rw [if_pos c5] at h
    refine V_if_neF C 8 dX10_part_1 (by decide) c5 ?_
    refine V_aload_n C 0 dX10_part_4 rfl rfl ?_
    obtain ⟨x5, h5, h⟩ := Option.bind_eq_some_iff.mp h
    refine V_callVv (As := []) C (X10_fail_ok h5) mw_X10_fail.1 mw_X10_fail.2.1 mw_X10_fail.2.2 q10_178 oM_0.1 oM_0.2.1 (by decide) rfl rfl (by omega) rfl rfl rfl (Nat.le_of_ble_eq_true rfl) dX10_part_5 ?_
    refine V_sub (lv' := [(0, .ref (G.2.1 0))]) [0] rfl ?_
    exact X10_part_b8_ok C hd h
  · rw [if_neg c5] at h
    refine V_if_neT C 8 dX10_part_1 (by decide) c5 ?_
    refine V_sub (lv' := [(0, .ref (G.2.1 0))]) [0] rfl ?_
    exact X10_part_b8_ok C hd h
def X10_read_b148 (l2 : Int32) (l3 : Int32) (l4 : Int32) (l5 : Int32) (σ : St) : Option (Int32 × St) := if l2 = 0 then (some (l3, σ)) else (if l2 = 1 then (some (l4, σ)) else (some (l5, σ)))
set_option maxRecDepth 100000 in
set_option maxHeartbeats 4000000 in
theorem X10_read_b148_ok {G : Gx} {p : Program} {l : Launch} {e : Env} {d : Nat} {s : State} {m : MethodId} {args : Array Value} {below : List Frame} {meth : Method} {c : Code} {A : Nat → Prop} (C : OK shM G p s m args meth c RX10 cX10_read 6 (some FieldType.int) A) (hd : 61 ≤ d) {l2 : Int32} {l3 : Int32} {l4 : Int32} {l5 : Int32} {σ : St} {x : (Int32 × St)} (h : X10_read_b148 l2 l3 l4 l5 σ = some x) : Vw shM G p l e d s m args below meth c 6 A σ 148 [(2, .int l2), (3, .int l3), (4, .int l4), (5, .int l5)] [] (some (.int x.1)) x.2 := by
  unfold X10_read_b148 at h
  refine V_iload_n C 0 dX10_read_148 rfl rfl ?_
  by_cases c1 : l2 = 0
  · rw [if_pos c1] at h
    refine V_if_neF C 156 dX10_read_149 (by decide) c1 ?_
    refine V_iload_n C 1 dX10_read_152 rfl rfl ?_
    refine V_goto C 168 dX10_read_153 (by decide) ?_
    obtain rfl := Option.some.inj h
    exact V_iret C rfl rfl dX10_read_168
  · rw [if_neg c1] at h
    refine V_if_neT C 156 dX10_read_149 (by decide) c1 ?_
    refine V_iload_n C 0 dX10_read_156 rfl rfl ?_
    refine V_iconst C (w := 1) dX10_read_157 (by decide) ?_
    by_cases c2 : l2 = 1
    · rw [if_pos c2] at h
      refine V_icmp_neF C 166 dX10_read_158 (by decide) c2 ?_
      refine V_iload C 2 dX10_read_161 rfl ?_
      refine V_goto C 168 dX10_read_163 (by decide) ?_
      obtain rfl := Option.some.inj h
      exact V_iret C rfl rfl dX10_read_168
    · rw [if_neg c2] at h
      refine V_icmp_neT C 166 dX10_read_158 (by decide) c2 ?_
      refine V_iload C 3 dX10_read_166 rfl ?_
      obtain rfl := Option.some.inj h
      exact V_iret C rfl rfl dX10_read_168
def X10_read_b128 (l2 : Int32) (l3 : Int32) (l4 : Int32) (s0 : Int32) (σ : St) : Option (Int32 × St) := if (σ.1 0 25) = 0 then (if (σ.1 0 21) = 0 then (X10_read_b148 l2 l3 l4 s0 σ) else ((X10_fail σ).bind (fun x145 => X10_read_b148 l2 l3 l4 s0 x145))) else (X10_read_b148 l2 l3 l4 s0 σ)
set_option maxRecDepth 100000 in
set_option maxHeartbeats 4000000 in
theorem X10_read_b128_ok {G : Gx} {p : Program} {l : Launch} {e : Env} {d : Nat} {s : State} {m : MethodId} {args : Array Value} {below : List Frame} {meth : Method} {c : Code} {A : Nat → Prop} (C : OK shM G p s m args meth c RX10 cX10_read 6 (some FieldType.int) A) (hd : 61 ≤ d) {l2 : Int32} {l3 : Int32} {l4 : Int32} {s0 : Int32} {σ : St} {x : (Int32 × St)} (h : X10_read_b128 l2 l3 l4 s0 σ = some x) : Vw shM G p l e d s m args below meth c 6 A σ 128 [(0, .ref (G.2.1 0)), (2, .int l2), (3, .int l3), (4, .int l4)] [.int s0] (some (.int x.1)) x.2 := by
  unfold X10_read_b128 at h
  refine V_istore C (lv' := [(5, .int s0), (0, .ref (G.2.1 0)), (2, .int l2), (3, .int l3), (4, .int l4)]) dX10_read_128 (by decide) rfl ?_
  refine V_aload_n C 1 dX10_read_130 rfl rfl ?_
  refine fg10_164 C oM_0 dX10_read_131 ?_
  by_cases c3 : (σ.1 0 25) = 0
  · rw [if_pos c3] at h
    refine V_if_neF C 148 dX10_read_134 (by decide) c3 ?_
    refine V_aload_n C 1 dX10_read_137 rfl rfl ?_
    refine fg10_147 C oM_0 dX10_read_138 ?_
    by_cases c4 : (σ.1 0 21) = 0
    · rw [if_pos c4] at h
      refine V_if_eqT C 148 dX10_read_141 (by decide) c4 ?_
      refine V_sub (lv' := [(2, .int l2), (3, .int l3), (4, .int l4), (5, .int s0)]) [2, 3, 4, 0] rfl ?_
      exact X10_read_b148_ok C hd h
    · rw [if_neg c4] at h
      refine V_if_eqF C 148 dX10_read_141 (by decide) c4 ?_
      refine V_aload_n C 1 dX10_read_144 rfl rfl ?_
      obtain ⟨x145, h145, h⟩ := Option.bind_eq_some_iff.mp h
      refine V_callVv (As := []) C (X10_fail_ok h145) mw_X10_fail.1 mw_X10_fail.2.1 mw_X10_fail.2.2 q10_178 oM_0.1 oM_0.2.1 (by decide) rfl rfl (by omega) rfl rfl rfl (Nat.le_of_ble_eq_true rfl) dX10_read_145 ?_
      refine V_sub (lv' := [(2, .int l2), (3, .int l3), (4, .int l4), (5, .int s0)]) [2, 3, 4, 0] rfl ?_
      exact X10_read_b148_ok C hd h
  · rw [if_neg c3] at h
    refine V_if_neT C 148 dX10_read_134 (by decide) c3 ?_
    refine V_sub (lv' := [(2, .int l2), (3, .int l3), (4, .int l4), (5, .int s0)]) [2, 3, 4, 0] rfl ?_
    exact X10_read_b148_ok C hd h
def X10_read_b92 (l2 : Int32) (l3 : Int32) (s0 : Int32) (σ : St) : Option (Int32 × St) := if (σ.1 0 25) = 0 then ((X10_isWord 115 99 114 101 97 109 115 0 σ).bind (fun x122 => (X10_part x122 σ).bind (fun x125 => X10_read_b128 l2 l3 s0 x125.1 x125.2))) else (X10_read_b128 l2 l3 s0 0 σ)
set_option maxRecDepth 100000 in
set_option maxHeartbeats 4000000 in
theorem X10_read_b92_ok {G : Gx} {p : Program} {l : Launch} {e : Env} {d : Nat} {s : State} {m : MethodId} {args : Array Value} {below : List Frame} {meth : Method} {c : Code} {A : Nat → Prop} (C : OK shM G p s m args meth c RX10 cX10_read 6 (some FieldType.int) A) (hd : 61 ≤ d) {l2 : Int32} {l3 : Int32} {s0 : Int32} {σ : St} {x : (Int32 × St)} (h : X10_read_b92 l2 l3 s0 σ = some x) : Vw shM G p l e d s m args below meth c 6 A σ 92 [(0, .ref (G.2.1 0)), (2, .int l2), (3, .int l3)] [.int s0] (some (.int x.1)) x.2 := by
  unfold X10_read_b92 at h
  refine V_istore C (lv' := [(4, .int s0), (0, .ref (G.2.1 0)), (2, .int l2), (3, .int l3)]) dX10_read_92 (by decide) rfl ?_
  refine V_aload_n C 1 dX10_read_94 rfl rfl ?_
  refine fg10_164 C oM_0 dX10_read_95 ?_
  by_cases c5 : (σ.1 0 25) = 0
  · rw [if_pos c5] at h
    refine V_if_eqT C 105 dX10_read_98 (by decide) c5 ?_
    refine V_aload_n C 1 dX10_read_105 rfl rfl ?_
    refine V_aload_n C 1 dX10_read_106 rfl rfl ?_
    refine V_bipush C (w := 115) dX10_read_107 (by decide) ?_
    refine V_bipush C (w := 99) dX10_read_109 (by decide) ?_
    refine V_bipush C (w := 114) dX10_read_111 (by decide) ?_
    refine V_bipush C (w := 101) dX10_read_113 (by decide) ?_
    refine V_bipush C (w := 97) dX10_read_115 (by decide) ?_
    refine V_bipush C (w := 109) dX10_read_117 (by decide) ?_
    refine V_bipush C (w := 115) dX10_read_119 (by decide) ?_
    refine V_iconst C (w := 0) dX10_read_121 (by decide) ?_
    obtain ⟨x122, h122, h⟩ := Option.bind_eq_some_iff.mp h
    refine V_callVi (As := [.int 115, .int 99, .int 114, .int 101, .int 97, .int 109, .int 115, .int 0]) C (X10_isWord_ok h122) mw_X10_isWord.1 mw_X10_isWord.2.1 mw_X10_isWord.2.2 q10_184 oM_0.1 oM_0.2.1 (by decide) rfl rfl (by omega) rfl rfl rfl (Nat.le_of_ble_eq_true rfl) dX10_read_122 ?_
    obtain ⟨x125, h125, h⟩ := Option.bind_eq_some_iff.mp h
    refine V_callVi (As := [.int x122]) C (X10_part_ok h125) mw_X10_part.1 mw_X10_part.2.1 mw_X10_part.2.2 q10_239 oM_0.1 oM_0.2.1 (by decide) rfl rfl (by omega) rfl rfl rfl (Nat.le_of_ble_eq_true rfl) dX10_read_125 ?_
    refine V_sub (lv' := [(0, .ref (G.2.1 0)), (2, .int l2), (3, .int l3), (4, .int s0)]) [1, 2, 3, 0] rfl ?_
    exact X10_read_b128_ok C hd h
  · rw [if_neg c5] at h
    refine V_if_eqF C 105 dX10_read_98 (by decide) c5 ?_
    refine V_iconst C (w := 0) dX10_read_101 (by decide) ?_
    refine V_goto C 128 dX10_read_102 (by decide) ?_
    refine V_sub (lv' := [(0, .ref (G.2.1 0)), (2, .int l2), (3, .int l3), (4, .int s0)]) [1, 2, 3, 0] rfl ?_
    exact X10_read_b128_ok C hd h
def X10_read (l1 : Int32) (l2 : Int32) (σ : St) : Option (Int32 × St) := if ob l1 6 then none else ((X10_next (up (up (up (up (up σ 0 18 (160 * l1)) 0 19 ((up σ 0 18 (160 * l1)).1 2 (l1).toNatClampNeg)) 0 20 0) 0 24 0) 0 25 0)).bind (fun x35 => (X10_isWord 119 97 114 109 115 0 0 0 x35).bind (fun x53 => (X10_part x53 x35).bind (fun x56 => if (x56.2.1 0 25) = 0 then ((X10_isWord 99 111 111 108 115 0 0 0 x56.2).bind (fun x86 => (X10_part x86 x56.2).bind (fun x89 => X10_read_b92 l2 x56.1 x89.1 x89.2))) else (X10_read_b92 l2 x56.1 0 x56.2)))))
set_option maxRecDepth 100000 in
set_option maxHeartbeats 4000000 in
theorem X10_read_ok {l1 : Int32} {l2 : Int32} {σ : St} {x : (Int32 × St)} (h : X10_read l1 l2 σ = some x) : Ct shM (61) yX10_read cX10_read 6 (some FieldType.int) (fun G => [.ref (G.2.1 0), .int l1, .int l2]) σ (fun G => some (.int x.1)) x.2 := by
  refine Ct.of mw_X10_read.1 (by decide +kernel) (fun G => Nat.le_of_ble_eq_true rfl) (fun G p l e d s m args below meth c A hd C => ?_)
  refine (?_ : Vw shM G p l e d s m args below meth c 6 A σ 0 [(0, .ref (G.2.1 0)), (1, .int l1), (2, .int l2)] [] (some (.int x.1)) x.2)
  unfold X10_read at h
  refine V_aload_n C 0 dX10_read_0 rfl rfl ?_
  refine V_sipush C (w := 160) dX10_read_1 (by decide) ?_
  refine V_iload_n C 1 dX10_read_4 rfl rfl ?_
  refine V_imul C dX10_read_5 ?_
  refine fp10_135 C oM_0 dX10_read_6 ?_
  refine V_aload_n C 0 dX10_read_9 rfl rfl ?_
  refine V_aload_n C 0 dX10_read_10 rfl rfl ?_
  refine fg10_17 (r := 2) C oM_0 rfl dX10_read_11 ?_
  refine V_iload_n C 1 dX10_read_14 rfl rfl ?_
  have g6 : ¬ (ob l1 6) := fun g9 => by rw [if_pos g9] at h; cases h
  rw [if_neg g6] at h
  refine V_ialdO C oM_2 g6 dX10_read_15 ?_
  refine fp10_132 C oM_0 dX10_read_16 ?_
  refine V_aload_n C 0 dX10_read_19 rfl rfl ?_
  refine V_iconst C (w := 0) dX10_read_20 (by decide) ?_
  refine fp10_138 C oM_0 dX10_read_21 ?_
  refine V_aload_n C 0 dX10_read_24 rfl rfl ?_
  refine V_iconst C (w := 0) dX10_read_25 (by decide) ?_
  refine fp10_175 C oM_0 dX10_read_26 ?_
  refine V_aload_n C 0 dX10_read_29 rfl rfl ?_
  refine V_iconst C (w := 0) dX10_read_30 (by decide) ?_
  refine fp10_164 C oM_0 (Or.inl rfl) dX10_read_31 ?_
  refine V_aload_n C 0 dX10_read_34 rfl rfl ?_
  obtain ⟨x35, h35, h⟩ := Option.bind_eq_some_iff.mp h
  refine V_callVv (As := []) C (X10_next_ok h35) mw_X10_next.1 mw_X10_next.2.1 mw_X10_next.2.2 q10_181 oM_0.1 oM_0.2.1 (by decide) rfl rfl (by omega) rfl rfl rfl (Nat.le_of_ble_eq_true rfl) dX10_read_35 ?_
  refine V_aload_n C 0 dX10_read_38 rfl rfl ?_
  refine V_aload_n C 0 dX10_read_39 rfl rfl ?_
  refine V_bipush C (w := 119) dX10_read_40 (by decide) ?_
  refine V_bipush C (w := 97) dX10_read_42 (by decide) ?_
  refine V_bipush C (w := 114) dX10_read_44 (by decide) ?_
  refine V_bipush C (w := 109) dX10_read_46 (by decide) ?_
  refine V_bipush C (w := 115) dX10_read_48 (by decide) ?_
  refine V_iconst C (w := 0) dX10_read_50 (by decide) ?_
  refine V_iconst C (w := 0) dX10_read_51 (by decide) ?_
  refine V_iconst C (w := 0) dX10_read_52 (by decide) ?_
  obtain ⟨x53, h53, h⟩ := Option.bind_eq_some_iff.mp h
  refine V_callVi (As := [.int 119, .int 97, .int 114, .int 109, .int 115, .int 0, .int 0, .int 0]) C (X10_isWord_ok h53) mw_X10_isWord.1 mw_X10_isWord.2.1 mw_X10_isWord.2.2 q10_184 oM_0.1 oM_0.2.1 (by decide) rfl rfl (by omega) rfl rfl rfl (Nat.le_of_ble_eq_true rfl) dX10_read_53 ?_
  obtain ⟨x56, h56, h⟩ := Option.bind_eq_some_iff.mp h
  refine V_callVi (As := [.int x53]) C (X10_part_ok h56) mw_X10_part.1 mw_X10_part.2.1 mw_X10_part.2.2 q10_239 oM_0.1 oM_0.2.1 (by decide) rfl rfl (by omega) rfl rfl rfl (Nat.le_of_ble_eq_true rfl) dX10_read_56 ?_
  refine V_istore_n C (lv' := [(3, .int x56.1), (0, .ref (G.2.1 0)), (1, .int l1), (2, .int l2)]) dX10_read_59 rfl (by decide) rfl ?_
  refine V_aload_n C 1 dX10_read_60 rfl rfl ?_
  refine fg10_164 C oM_0 dX10_read_61 ?_
  by_cases c7 : (x56.2.1 0 25) = 0
  · rw [if_pos c7] at h
    refine V_if_eqT C 71 dX10_read_64 (by decide) c7 ?_
    refine V_aload_n C 1 dX10_read_71 rfl rfl ?_
    refine V_aload_n C 1 dX10_read_72 rfl rfl ?_
    refine V_bipush C (w := 99) dX10_read_73 (by decide) ?_
    refine V_bipush C (w := 111) dX10_read_75 (by decide) ?_
    refine V_bipush C (w := 111) dX10_read_77 (by decide) ?_
    refine V_bipush C (w := 108) dX10_read_79 (by decide) ?_
    refine V_bipush C (w := 115) dX10_read_81 (by decide) ?_
    refine V_iconst C (w := 0) dX10_read_83 (by decide) ?_
    refine V_iconst C (w := 0) dX10_read_84 (by decide) ?_
    refine V_iconst C (w := 0) dX10_read_85 (by decide) ?_
    obtain ⟨x86, h86, h⟩ := Option.bind_eq_some_iff.mp h
    refine V_callVi (As := [.int 99, .int 111, .int 111, .int 108, .int 115, .int 0, .int 0, .int 0]) C (X10_isWord_ok h86) mw_X10_isWord.1 mw_X10_isWord.2.1 mw_X10_isWord.2.2 q10_184 oM_0.1 oM_0.2.1 (by decide) rfl rfl (by omega) rfl rfl rfl (Nat.le_of_ble_eq_true rfl) dX10_read_86 ?_
    obtain ⟨x89, h89, h⟩ := Option.bind_eq_some_iff.mp h
    refine V_callVi (As := [.int x86]) C (X10_part_ok h89) mw_X10_part.1 mw_X10_part.2.1 mw_X10_part.2.2 q10_239 oM_0.1 oM_0.2.1 (by decide) rfl rfl (by omega) rfl rfl rfl (Nat.le_of_ble_eq_true rfl) dX10_read_89 ?_
    refine V_sub (lv' := [(0, .ref (G.2.1 0)), (2, .int l2), (3, .int x56.1)]) [1, 3, 0] rfl ?_
    exact X10_read_b92_ok C hd h
  · rw [if_neg c7] at h
    refine V_if_eqF C 71 dX10_read_64 (by decide) c7 ?_
    refine V_iconst C (w := 0) dX10_read_67 (by decide) ?_
    refine V_goto C 92 dX10_read_68 (by decide) ?_
    refine V_sub (lv' := [(0, .ref (G.2.1 0)), (2, .int l2), (3, .int x56.1)]) [1, 3, 0] rfl ?_
    exact X10_read_b92_ok C hd h
def X10_warmsOf_b59 (l1 : Int32) (l3 : Int32) (l5 : Int32) (σ : St) : Option (Int32 × St) := if ob (3 * l1) 15 then none else (if l3 = 2 then (some ((l5 + (σ.1 6 ((3 * l1)).toNatClampNeg)), σ)) else (if ((σ.1 4 (2 : Int32).toNatClampNeg) - (σ.1 4 (2 : Int32).toNatClampNeg) / 2 * 2) = 1 then (some ((((l5 + (σ.1 6 ((3 * l1)).toNatClampNeg)) / 2) - 5), σ)) else (some ((((l5 + (σ.1 6 ((3 * l1)).toNatClampNeg)) / 2) - 0), σ))))
set_option maxRecDepth 100000 in
set_option maxHeartbeats 4000000 in
theorem X10_warmsOf_b59_ok {G : Gx} {p : Program} {l : Launch} {e : Env} {d : Nat} {s : State} {m : MethodId} {args : Array Value} {below : List Frame} {meth : Method} {c : Code} {A : Nat → Prop} (C : OK shM G p s m args meth c RX10 cX10_warmsOf 7 (some FieldType.int) A) (hd : 62 ≤ d) {l1 : Int32} {l3 : Int32} {l5 : Int32} {σ : St} {x : (Int32 × St)} (h : X10_warmsOf_b59 l1 l3 l5 σ = some x) : Vw shM G p l e d s m args below meth c 7 A σ 59 [(0, .ref (G.2.1 0)), (1, .int l1), (3, .int l3), (5, .int l5)] [] (some (.int x.1)) x.2 := by
  unfold X10_warmsOf_b59 at h
  refine V_iload C 3 dX10_warmsOf_59 rfl ?_
  refine V_aload_n C 0 dX10_warmsOf_61 rfl rfl ?_
  refine fg10_29 (r := 6) C oM_0 rfl dX10_warmsOf_62 ?_
  refine V_iconst C (w := 3) dX10_warmsOf_65 (by decide) ?_
  refine V_iload_n C 1 dX10_warmsOf_66 rfl rfl ?_
  refine V_imul C dX10_warmsOf_67 ?_
  have g1 : ¬ (ob (3 * l1) 15) := fun g9 => by rw [if_pos g9] at h; cases h
  rw [if_neg g1] at h
  refine V_ialdO C oM_6 g1 dX10_warmsOf_68 ?_
  refine V_iadd C dX10_warmsOf_69 ?_
  refine V_istore C (lv' := [(6, .int (l5 + (σ.1 6 ((3 * l1)).toNatClampNeg))), (0, .ref (G.2.1 0)), (1, .int l1), (3, .int l3), (5, .int l5)]) dX10_warmsOf_70 (by decide) rfl ?_
  refine V_iload_n C 3 dX10_warmsOf_72 rfl rfl ?_
  refine V_iconst C (w := 2) dX10_warmsOf_73 (by decide) ?_
  by_cases c2 : l3 = 2
  · rw [if_pos c2] at h
    refine V_icmp_neF C 82 dX10_warmsOf_74 (by decide) c2 ?_
    refine V_iload C 0 dX10_warmsOf_77 rfl ?_
    refine V_goto C 104 dX10_warmsOf_79 (by decide) ?_
    obtain rfl := Option.some.inj h
    exact V_iret C rfl rfl dX10_warmsOf_104
  · rw [if_neg c2] at h
    refine V_icmp_neT C 82 dX10_warmsOf_74 (by decide) c2 ?_
    refine V_iload C 0 dX10_warmsOf_82 rfl ?_
    refine V_iconst C (w := 2) dX10_warmsOf_84 (by decide) ?_
    refine V_idiv C dX10_warmsOf_85 (by decide) ?_
    refine V_aload_n C 1 dX10_warmsOf_86 rfl rfl ?_
    refine fg10_23 (r := 4) C oM_0 rfl dX10_warmsOf_87 ?_
    refine V_iconst C (w := 2) dX10_warmsOf_90 (by decide) ?_
    refine V_ialdO C oM_4 (by decide) dX10_warmsOf_91 ?_
    refine V_iconst C (w := 2) dX10_warmsOf_92 (by decide) ?_
    refine V_irem C dX10_warmsOf_93 (by decide) ?_
    refine V_iconst C (w := 1) dX10_warmsOf_94 (by decide) ?_
    by_cases c3 : ((σ.1 4 (2 : Int32).toNatClampNeg) - (σ.1 4 (2 : Int32).toNatClampNeg) / 2 * 2) = 1
    · rw [if_pos c3] at h
      refine V_icmp_neF C 102 dX10_warmsOf_95 (by decide) c3 ?_
      refine V_iconst C (w := 5) dX10_warmsOf_98 (by decide) ?_
      refine V_goto C 103 dX10_warmsOf_99 (by decide) ?_
      refine V_isub C dX10_warmsOf_103 ?_
      obtain rfl := Option.some.inj h
      exact V_iret C rfl rfl dX10_warmsOf_104
    · rw [if_neg c3] at h
      refine V_icmp_neT C 102 dX10_warmsOf_95 (by decide) c3 ?_
      refine V_iconst C (w := 0) dX10_warmsOf_102 (by decide) ?_
      refine V_isub C dX10_warmsOf_103 ?_
      obtain rfl := Option.some.inj h
      exact V_iret C rfl rfl dX10_warmsOf_104
def X10_warmsOf_b47 (l1 : Int32) (l2 : Int32) (l3 : Int32) (s0 : Int32) (σ : St) : Option (Int32 × St) := if l3 = 2 then (X10_warmsOf_b59 l1 l3 s0 σ) else (if l3 = 4 then (X10_warmsOf_b59 l1 l3 s0 σ) else (if l3 = 1 then (some ((2 * s0), σ)) else (if l3 = 3 then (if l2 = 0 then (some ((2 * s0), σ)) else (some (((-2) * s0), σ))) else (if l3 = 5 then (if 3 ≤ s0 then (some (s0, σ)) else (some (3, σ))) else (some (s0, σ))))))
set_option maxRecDepth 100000 in
set_option maxHeartbeats 4000000 in
theorem X10_warmsOf_b47_ok {G : Gx} {p : Program} {l : Launch} {e : Env} {d : Nat} {s : State} {m : MethodId} {args : Array Value} {below : List Frame} {meth : Method} {c : Code} {A : Nat → Prop} (C : OK shM G p s m args meth c RX10 cX10_warmsOf 7 (some FieldType.int) A) (hd : 62 ≤ d) {l1 : Int32} {l2 : Int32} {l3 : Int32} {s0 : Int32} {σ : St} {x : (Int32 × St)} (h : X10_warmsOf_b47 l1 l2 l3 s0 σ = some x) : Vw shM G p l e d s m args below meth c 7 A σ 47 [(0, .ref (G.2.1 0)), (1, .int l1), (2, .int l2), (3, .int l3)] [.int s0] (some (.int x.1)) x.2 := by
  unfold X10_warmsOf_b47 at h
  refine V_istore C (lv' := [(5, .int s0), (0, .ref (G.2.1 0)), (1, .int l1), (2, .int l2), (3, .int l3)]) dX10_warmsOf_47 (by decide) rfl ?_
  refine V_iload_n C 4 dX10_warmsOf_49 rfl rfl ?_
  refine V_iconst C (w := 2) dX10_warmsOf_50 (by decide) ?_
  by_cases c4 : l3 = 2
  · rw [if_pos c4] at h
    refine V_icmp_eqT C 59 dX10_warmsOf_51 (by decide) c4 ?_
    refine V_sub (lv' := [(0, .ref (G.2.1 0)), (1, .int l1), (3, .int l3), (5, .int s0)]) [1, 2, 4, 0] rfl ?_
    exact X10_warmsOf_b59_ok C hd h
  · rw [if_neg c4] at h
    refine V_icmp_eqF C 59 dX10_warmsOf_51 (by decide) c4 ?_
    refine V_iload_n C 4 dX10_warmsOf_54 rfl rfl ?_
    refine V_iconst C (w := 4) dX10_warmsOf_55 (by decide) ?_
    by_cases c5 : l3 = 4
    · rw [if_pos c5] at h
      refine V_icmp_neF C 105 dX10_warmsOf_56 (by decide) c5 ?_
      refine V_sub (lv' := [(0, .ref (G.2.1 0)), (1, .int l1), (3, .int l3), (5, .int s0)]) [1, 2, 4, 0] rfl ?_
      exact X10_warmsOf_b59_ok C hd h
    · rw [if_neg c5] at h
      refine V_icmp_neT C 105 dX10_warmsOf_56 (by decide) c5 ?_
      refine V_iload_n C 4 dX10_warmsOf_105 rfl rfl ?_
      refine V_iconst C (w := 1) dX10_warmsOf_106 (by decide) ?_
      by_cases c6 : l3 = 1
      · rw [if_pos c6] at h
        refine V_icmp_neF C 117 dX10_warmsOf_107 (by decide) c6 ?_
        refine V_iconst C (w := 2) dX10_warmsOf_110 (by decide) ?_
        refine V_iload C 0 dX10_warmsOf_111 rfl ?_
        refine V_imul C dX10_warmsOf_113 ?_
        refine V_goto C 158 dX10_warmsOf_114 (by decide) ?_
        obtain rfl := Option.some.inj h
        exact V_iret C rfl rfl dX10_warmsOf_158
      · rw [if_neg c6] at h
        refine V_icmp_neT C 117 dX10_warmsOf_107 (by decide) c6 ?_
        refine V_iload_n C 4 dX10_warmsOf_117 rfl rfl ?_
        refine V_iconst C (w := 3) dX10_warmsOf_118 (by decide) ?_
        by_cases c7 : l3 = 3
        · rw [if_pos c7] at h
          refine V_icmp_neF C 141 dX10_warmsOf_119 (by decide) c7 ?_
          refine V_iload_n C 3 dX10_warmsOf_122 rfl rfl ?_
          by_cases c10 : l2 = 0
          · rw [if_pos c10] at h
            refine V_if_eqT C 134 dX10_warmsOf_123 (by decide) c10 ?_
            refine V_iconst C (w := 2) dX10_warmsOf_134 (by decide) ?_
            refine V_iload C 0 dX10_warmsOf_135 rfl ?_
            refine V_imul C dX10_warmsOf_137 ?_
            refine V_goto C 158 dX10_warmsOf_138 (by decide) ?_
            obtain rfl := Option.some.inj h
            exact V_iret C rfl rfl dX10_warmsOf_158
          · rw [if_neg c10] at h
            refine V_if_eqF C 134 dX10_warmsOf_123 (by decide) c10 ?_
            refine V_bipush C (w := (-2)) dX10_warmsOf_126 (by decide) ?_
            refine V_iload C 0 dX10_warmsOf_128 rfl ?_
            refine V_imul C dX10_warmsOf_130 ?_
            refine V_goto C 158 dX10_warmsOf_131 (by decide) ?_
            obtain rfl := Option.some.inj h
            exact V_iret C rfl rfl dX10_warmsOf_158
        · rw [if_neg c7] at h
          refine V_icmp_neT C 141 dX10_warmsOf_119 (by decide) c7 ?_
          refine V_iload_n C 4 dX10_warmsOf_141 rfl rfl ?_
          refine V_iconst C (w := 5) dX10_warmsOf_142 (by decide) ?_
          by_cases c8 : l3 = 5
          · rw [if_pos c8] at h
            refine V_icmp_neF C 156 dX10_warmsOf_143 (by decide) c8 ?_
            refine V_iload C 0 dX10_warmsOf_146 rfl ?_
            refine V_iconst C (w := 3) dX10_warmsOf_148 (by decide) ?_
            by_cases c9 : 3 ≤ s0
            · rw [if_pos c9] at h
              refine V_icmp_geT C 156 dX10_warmsOf_149 (by decide) c9 ?_
              refine V_iload C 0 dX10_warmsOf_156 rfl ?_
              obtain rfl := Option.some.inj h
              exact V_iret C rfl rfl dX10_warmsOf_158
            · rw [if_neg c9] at h
              refine V_icmp_geF C 156 dX10_warmsOf_149 (by decide) c9 ?_
              refine V_iconst C (w := 3) dX10_warmsOf_152 (by decide) ?_
              refine V_goto C 158 dX10_warmsOf_153 (by decide) ?_
              obtain rfl := Option.some.inj h
              exact V_iret C rfl rfl dX10_warmsOf_158
          · rw [if_neg c8] at h
            refine V_icmp_neT C 156 dX10_warmsOf_143 (by decide) c8 ?_
            refine V_iload C 0 dX10_warmsOf_156 rfl ?_
            obtain rfl := Option.some.inj h
            exact V_iret C rfl rfl dX10_warmsOf_158
def X10_warmsOf (l1 : Int32) (l2 : Int32) (σ : St) : Option (Int32 × St) := if ob l1 5 then none else ((X10_read (σ.1 0 4) 0 σ).bind (fun x13 => (X10_within x13.1 (-99) 99).bind (fun x20 => if ob ((3 * l1) + 2) 15 then none else (if (x13.2.1 6 (((3 * l1) + 2)).toNatClampNeg) = 1 then (X10_warmsOf_b47 l1 l2 (σ.1 5 (l1).toNatClampNeg) x20 x13.2) else (X10_warmsOf_b47 l1 l2 (σ.1 5 (l1).toNatClampNeg) (-x20) x13.2)))))
set_option maxRecDepth 100000 in
set_option maxHeartbeats 4000000 in
theorem X10_warmsOf_ok {l1 : Int32} {l2 : Int32} {σ : St} {x : (Int32 × St)} (h : X10_warmsOf l1 l2 σ = some x) : Ct shM (62) yX10_warmsOf cX10_warmsOf 7 (some FieldType.int) (fun G => [.ref (G.2.1 0), .int l1, .int l2]) σ (fun G => some (.int x.1)) x.2 := by
  refine Ct.of mw_X10_warmsOf.1 (by decide +kernel) (fun G => Nat.le_of_ble_eq_true rfl) (fun G p l e d s m args below meth c A hd C => ?_)
  refine (?_ : Vw shM G p l e d s m args below meth c 7 A σ 0 [(0, .ref (G.2.1 0)), (1, .int l1), (2, .int l2)] [] (some (.int x.1)) x.2)
  unfold X10_warmsOf at h
  refine V_aload_n C 0 dX10_warmsOf_0 rfl rfl ?_
  refine fg10_26 (r := 5) C oM_0 rfl dX10_warmsOf_1 ?_
  refine V_iload_n C 1 dX10_warmsOf_4 rfl rfl ?_
  have g11 : ¬ (ob l1 5) := fun g9 => by rw [if_pos g9] at h; cases h
  rw [if_neg g11] at h
  refine V_ialdO C oM_5 g11 dX10_warmsOf_5 ?_
  refine V_istore_n C (lv' := [(3, .int (σ.1 5 (l1).toNatClampNeg)), (0, .ref (G.2.1 0)), (1, .int l1), (2, .int l2)]) dX10_warmsOf_6 rfl (by decide) rfl ?_
  refine V_aload_n C 1 dX10_warmsOf_7 rfl rfl ?_
  refine V_aload_n C 1 dX10_warmsOf_8 rfl rfl ?_
  refine fg10_104 C oM_0 dX10_warmsOf_9 ?_
  refine V_iconst C (w := 0) dX10_warmsOf_12 (by decide) ?_
  obtain ⟨x13, h13, h⟩ := Option.bind_eq_some_iff.mp h
  refine V_callVi (As := [.int (σ.1 0 4), .int 0]) C (X10_read_ok h13) mw_X10_read.1 mw_X10_read.2.1 mw_X10_read.2.2 q10_243 oM_0.1 oM_0.2.1 (by decide) rfl rfl (by omega) rfl rfl rfl (Nat.le_of_ble_eq_true rfl) dX10_warmsOf_13 ?_
  refine V_bipush C (w := (-99)) dX10_warmsOf_16 (by decide) ?_
  refine V_bipush C (w := 99) dX10_warmsOf_18 (by decide) ?_
  obtain ⟨x20, h20, h⟩ := Option.bind_eq_some_iff.mp h
  refine V_callSi (As := [.int x13.1, .int (-99), .int 99]) C (X10_within_ok h20) mw_X10_within.1 mw_X10_within.2 q10_249 (by omega) rfl rfl rfl (Nat.le_of_ble_eq_true rfl) dX10_warmsOf_20 ?_
  refine V_istore C (lv' := [(4, .int x20), (3, .int (σ.1 5 (l1).toNatClampNeg)), (0, .ref (G.2.1 0)), (1, .int l1), (2, .int l2)]) dX10_warmsOf_23 (by decide) rfl ?_
  refine V_aload_n C 2 dX10_warmsOf_25 rfl rfl ?_
  refine fg10_29 (r := 6) C oM_0 rfl dX10_warmsOf_26 ?_
  refine V_iconst C (w := 3) dX10_warmsOf_29 (by decide) ?_
  refine V_iload_n C 3 dX10_warmsOf_30 rfl rfl ?_
  refine V_imul C dX10_warmsOf_31 ?_
  refine V_iconst C (w := 2) dX10_warmsOf_32 (by decide) ?_
  refine V_iadd C dX10_warmsOf_33 ?_
  have g12 : ¬ (ob ((3 * l1) + 2) 15) := fun g9 => by rw [if_pos g9] at h; cases h
  rw [if_neg g12] at h
  refine V_ialdO C oM_6 g12 dX10_warmsOf_34 ?_
  refine V_iconst C (w := 1) dX10_warmsOf_35 (by decide) ?_
  by_cases c13 : (x13.2.1 6 (((3 * l1) + 2)).toNatClampNeg) = 1
  · rw [if_pos c13] at h
    refine V_icmp_neF C 44 dX10_warmsOf_36 (by decide) c13 ?_
    refine V_iload C 0 dX10_warmsOf_39 rfl ?_
    refine V_goto C 47 dX10_warmsOf_41 (by decide) ?_
    refine V_sub (lv' := [(0, .ref (G.2.1 0)), (1, .int l1), (2, .int l2), (3, .int (σ.1 5 (l1).toNatClampNeg))]) [2, 3, 4, 1] rfl ?_
    exact X10_warmsOf_b47_ok C hd h
  · rw [if_neg c13] at h
    refine V_icmp_neT C 44 dX10_warmsOf_36 (by decide) c13 ?_
    refine V_iload C 0 dX10_warmsOf_44 rfl ?_
    refine V_ineg C dX10_warmsOf_46 ?_
    refine V_sub (lv' := [(0, .ref (G.2.1 0)), (1, .int l1), (2, .int l2), (3, .int (σ.1 5 (l1).toNatClampNeg))]) [2, 3, 4, 1] rfl ?_
    exact X10_warmsOf_b47_ok C hd h
def X10_coolsOf_b76 (s0 : Int32) (σ : St) : Option (Int32 × St) := if 0 ≤ s0 then (some (s0, σ)) else (some (0, σ))
set_option maxRecDepth 100000 in
set_option maxHeartbeats 4000000 in
theorem X10_coolsOf_b76_ok {G : Gx} {p : Program} {l : Launch} {e : Env} {d : Nat} {s : State} {m : MethodId} {args : Array Value} {below : List Frame} {meth : Method} {c : Code} {A : Nat → Prop} (C : OK shM G p s m args meth c RX10 cX10_coolsOf 6 (some FieldType.int) A) (hd : 62 ≤ d) {s0 : Int32} {σ : St} {x : (Int32 × St)} (h : X10_coolsOf_b76 s0 σ = some x) : Vw shM G p l e d s m args below meth c 6 A σ 76 [] [.int s0] (some (.int x.1)) x.2 := by
  unfold X10_coolsOf_b76 at h
  refine V_istore C (lv' := [(5, .int s0)]) dX10_coolsOf_76 (by decide) rfl ?_
  refine V_iload C 0 dX10_coolsOf_78 rfl ?_
  by_cases c1 : 0 ≤ s0
  · rw [if_pos c1] at h
    refine V_if_geT C 87 dX10_coolsOf_80 (by decide) c1 ?_
    refine V_iload C 0 dX10_coolsOf_87 rfl ?_
    obtain rfl := Option.some.inj h
    exact V_iret C rfl rfl dX10_coolsOf_89
  · rw [if_neg c1] at h
    refine V_if_geF C 87 dX10_coolsOf_80 (by decide) c1 ?_
    refine V_iconst C (w := 0) dX10_coolsOf_83 (by decide) ?_
    refine V_goto C 89 dX10_coolsOf_84 (by decide) ?_
    obtain rfl := Option.some.inj h
    exact V_iret C rfl rfl dX10_coolsOf_89
def X10_coolsOf_b65 (l3 : Int32) (l4 : Int32) (σ : St) : Option (Int32 × St) := if l3 = 5 then (X10_coolsOf_b76 0 σ) else (X10_coolsOf_b76 l4 σ)
set_option maxRecDepth 100000 in
set_option maxHeartbeats 4000000 in
theorem X10_coolsOf_b65_ok {G : Gx} {p : Program} {l : Launch} {e : Env} {d : Nat} {s : State} {m : MethodId} {args : Array Value} {below : List Frame} {meth : Method} {c : Code} {A : Nat → Prop} (C : OK shM G p s m args meth c RX10 cX10_coolsOf 6 (some FieldType.int) A) (hd : 62 ≤ d) {l3 : Int32} {l4 : Int32} {σ : St} {x : (Int32 × St)} (h : X10_coolsOf_b65 l3 l4 σ = some x) : Vw shM G p l e d s m args below meth c 6 A σ 65 [(3, .int l3), (4, .int l4)] [] (some (.int x.1)) x.2 := by
  unfold X10_coolsOf_b65 at h
  refine V_iload_n C 0 dX10_coolsOf_65 rfl rfl ?_
  refine V_iconst C (w := 5) dX10_coolsOf_66 (by decide) ?_
  by_cases c2 : l3 = 5
  · rw [if_pos c2] at h
    refine V_icmp_neF C 74 dX10_coolsOf_67 (by decide) c2 ?_
    refine V_iconst C (w := 0) dX10_coolsOf_70 (by decide) ?_
    refine V_goto C 76 dX10_coolsOf_71 (by decide) ?_
    refine V_sub (lv' := []) [] rfl ?_
    exact X10_coolsOf_b76_ok C hd h
  · rw [if_neg c2] at h
    refine V_icmp_neT C 74 dX10_coolsOf_67 (by decide) c2 ?_
    refine V_iload C 1 dX10_coolsOf_74 rfl ?_
    refine V_sub (lv' := []) [] rfl ?_
    exact X10_coolsOf_b76_ok C hd h
def X10_coolsOf (l1 : Int32) (l2 : Int32) (σ : St) : Option (Int32 × St) := if ob l1 5 then none else ((X10_read (σ.1 0 4) 1 σ).bind (fun x13 => (X10_within x13.1 (-99) 99).bind (fun x20 => if (σ.1 5 (l1).toNatClampNeg) = 2 then (X10_coolsOf_b76 (x20 - 2) x13.2) else (if (σ.1 5 (l1).toNatClampNeg) = 4 then (X10_coolsOf_b76 (x20 - 2) x13.2) else (if (σ.1 5 (l1).toNatClampNeg) = 3 then (if l2 = 0 then (X10_coolsOf_b65 (σ.1 5 (l1).toNatClampNeg) x20 x13.2) else (if ob (3 * l1) 15 then none else (X10_coolsOf_b76 (x20 + (x13.2.1 6 ((3 * l1)).toNatClampNeg)) x13.2))) else (X10_coolsOf_b65 (σ.1 5 (l1).toNatClampNeg) x20 x13.2))))))
set_option maxRecDepth 100000 in
set_option maxHeartbeats 4000000 in
theorem X10_coolsOf_ok {l1 : Int32} {l2 : Int32} {σ : St} {x : (Int32 × St)} (h : X10_coolsOf l1 l2 σ = some x) : Ct shM (62) yX10_coolsOf cX10_coolsOf 6 (some FieldType.int) (fun G => [.ref (G.2.1 0), .int l1, .int l2]) σ (fun G => some (.int x.1)) x.2 := by
  refine Ct.of mw_X10_coolsOf.1 (by decide +kernel) (fun G => Nat.le_of_ble_eq_true rfl) (fun G p l e d s m args below meth c A hd C => ?_)
  refine (?_ : Vw shM G p l e d s m args below meth c 6 A σ 0 [(0, .ref (G.2.1 0)), (1, .int l1), (2, .int l2)] [] (some (.int x.1)) x.2)
  unfold X10_coolsOf at h
  refine V_aload_n C 0 dX10_coolsOf_0 rfl rfl ?_
  refine fg10_26 (r := 5) C oM_0 rfl dX10_coolsOf_1 ?_
  refine V_iload_n C 1 dX10_coolsOf_4 rfl rfl ?_
  have g3 : ¬ (ob l1 5) := fun g9 => by rw [if_pos g9] at h; cases h
  rw [if_neg g3] at h
  refine V_ialdO C oM_5 g3 dX10_coolsOf_5 ?_
  refine V_istore_n C (lv' := [(3, .int (σ.1 5 (l1).toNatClampNeg)), (0, .ref (G.2.1 0)), (1, .int l1), (2, .int l2)]) dX10_coolsOf_6 rfl (by decide) rfl ?_
  refine V_aload_n C 1 dX10_coolsOf_7 rfl rfl ?_
  refine V_aload_n C 1 dX10_coolsOf_8 rfl rfl ?_
  refine fg10_104 C oM_0 dX10_coolsOf_9 ?_
  refine V_iconst C (w := 1) dX10_coolsOf_12 (by decide) ?_
  obtain ⟨x13, h13, h⟩ := Option.bind_eq_some_iff.mp h
  refine V_callVi (As := [.int (σ.1 0 4), .int 1]) C (X10_read_ok h13) mw_X10_read.1 mw_X10_read.2.1 mw_X10_read.2.2 q10_243 oM_0.1 oM_0.2.1 (by decide) rfl rfl (by omega) rfl rfl rfl (Nat.le_of_ble_eq_true rfl) dX10_coolsOf_13 ?_
  refine V_bipush C (w := (-99)) dX10_coolsOf_16 (by decide) ?_
  refine V_bipush C (w := 99) dX10_coolsOf_18 (by decide) ?_
  obtain ⟨x20, h20, h⟩ := Option.bind_eq_some_iff.mp h
  refine V_callSi (As := [.int x13.1, .int (-99), .int 99]) C (X10_within_ok h20) mw_X10_within.1 mw_X10_within.2 q10_249 (by omega) rfl rfl rfl (Nat.le_of_ble_eq_true rfl) dX10_coolsOf_20 ?_
  refine V_istore C (lv' := [(4, .int x20), (3, .int (σ.1 5 (l1).toNatClampNeg)), (0, .ref (G.2.1 0)), (1, .int l1), (2, .int l2)]) dX10_coolsOf_23 (by decide) rfl ?_
  refine V_iload_n C 1 dX10_coolsOf_25 rfl rfl ?_
  refine V_iconst C (w := 2) dX10_coolsOf_26 (by decide) ?_
  by_cases c4 : (σ.1 5 (l1).toNatClampNeg) = 2
  · rw [if_pos c4] at h
    refine V_icmp_eqT C 35 dX10_coolsOf_27 (by decide) c4 ?_
    refine V_iload C 0 dX10_coolsOf_35 rfl ?_
    refine V_iconst C (w := 2) dX10_coolsOf_37 (by decide) ?_
    refine V_isub C dX10_coolsOf_38 ?_
    refine V_goto C 76 dX10_coolsOf_39 (by decide) ?_
    refine V_sub (lv' := []) [] rfl ?_
    exact X10_coolsOf_b76_ok C hd h
  · rw [if_neg c4] at h
    refine V_icmp_eqF C 35 dX10_coolsOf_27 (by decide) c4 ?_
    refine V_iload_n C 1 dX10_coolsOf_30 rfl rfl ?_
    refine V_iconst C (w := 4) dX10_coolsOf_31 (by decide) ?_
    by_cases c5 : (σ.1 5 (l1).toNatClampNeg) = 4
    · rw [if_pos c5] at h
      refine V_icmp_neF C 42 dX10_coolsOf_32 (by decide) c5 ?_
      refine V_iload C 0 dX10_coolsOf_35 rfl ?_
      refine V_iconst C (w := 2) dX10_coolsOf_37 (by decide) ?_
      refine V_isub C dX10_coolsOf_38 ?_
      refine V_goto C 76 dX10_coolsOf_39 (by decide) ?_
      refine V_sub (lv' := []) [] rfl ?_
      exact X10_coolsOf_b76_ok C hd h
    · rw [if_neg c5] at h
      refine V_icmp_neT C 42 dX10_coolsOf_32 (by decide) c5 ?_
      refine V_iload_n C 1 dX10_coolsOf_42 rfl rfl ?_
      refine V_iconst C (w := 3) dX10_coolsOf_43 (by decide) ?_
      by_cases c6 : (σ.1 5 (l1).toNatClampNeg) = 3
      · rw [if_pos c6] at h
        refine V_icmp_neF C 65 dX10_coolsOf_44 (by decide) c6 ?_
        refine V_iload_n C 4 dX10_coolsOf_47 rfl rfl ?_
        by_cases c7 : l2 = 0
        · rw [if_pos c7] at h
          refine V_if_eqT C 65 dX10_coolsOf_48 (by decide) c7 ?_
          refine V_sub (lv' := [(3, .int (σ.1 5 (l1).toNatClampNeg)), (4, .int x20)]) [1, 0] rfl ?_
          exact X10_coolsOf_b65_ok C hd h
        · rw [if_neg c7] at h
          refine V_if_eqF C 65 dX10_coolsOf_48 (by decide) c7 ?_
          refine V_iload C 0 dX10_coolsOf_51 rfl ?_
          refine V_aload_n C 2 dX10_coolsOf_53 rfl rfl ?_
          refine fg10_29 (r := 6) C oM_0 rfl dX10_coolsOf_54 ?_
          refine V_iconst C (w := 3) dX10_coolsOf_57 (by decide) ?_
          refine V_iload_n C 3 dX10_coolsOf_58 rfl rfl ?_
          refine V_imul C dX10_coolsOf_59 ?_
          have g8 : ¬ (ob (3 * l1) 15) := fun g9 => by rw [if_pos g9] at h; cases h
          rw [if_neg g8] at h
          refine V_ialdO C oM_6 g8 dX10_coolsOf_60 ?_
          refine V_iadd C dX10_coolsOf_61 ?_
          refine V_goto C 76 dX10_coolsOf_62 (by decide) ?_
          refine V_sub (lv' := []) [] rfl ?_
          exact X10_coolsOf_b76_ok C hd h
      · rw [if_neg c6] at h
        refine V_icmp_neT C 65 dX10_coolsOf_44 (by decide) c6 ?_
        refine V_sub (lv' := [(3, .int (σ.1 5 (l1).toNatClampNeg)), (4, .int x20)]) [1, 0] rfl ?_
        exact X10_coolsOf_b65_ok C hd h
