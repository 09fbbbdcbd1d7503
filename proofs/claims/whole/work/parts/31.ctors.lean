theorem qo_i : Cond.instanceMethod objectInit ∈ wsL_law := wu (tb1 (List.mem_of_getElem? (i := 24) (by decide +kernel))) rfl
theorem qo_c : Cond.code objectInit ⟨#[0xb1]⟩ 1 none ∈ wsL_law := wu (tb1 (List.mem_of_getElem? (i := 25) (by decide +kernel))) rfl
theorem qa_I : Cond.arrayClass .int ∈ wsL_law := wu (tb1 (List.mem_of_getElem? (i := 80) (by decide +kernel))) rfl
theorem qa_Z : Cond.arrayClass .boolean ∈ wsL_law := wu (tb1 (List.mem_of_getElem? (i := 229) (by decide +kernel))) rfl
theorem mw_X4_init : MW yX4_init cX4_init 1 none 0 ∧ Cond.instanceMethod yX4_init ∈ wsL_law := ⟨⟨wu (tb1 (List.mem_of_getElem? (i := 159) (by decide +kernel))) rfl, wu (tb1 (List.mem_of_getElem? (i := 7) (by decide +kernel))) rfl, ⟨by decide +kernel, by decide +kernel, by decide +kernel⟩, by decide⟩, wu (tb1 (List.mem_of_getElem? (i := 158) (by decide +kernel))) rfl⟩
set_option maxRecDepth 100000 in
set_option maxHeartbeats 4000000 in
theorem c4_init : Kt 1 yX4_init cX4_init 1 0 0 (.inr (4, [.int 0, .int 0, .int 0, .int 0, .int 0, .int 0, .int 0, .int 0, .int 0])) [] (fun (G : Gx) (b : Nat) (r : Nat → Nat) => ([(b, .inr (4, [.int 0, .int 0, .int 0, .int 0, .int 0, .int 0, .int 0, .int 0, .int 0]))] : va_W)) := by
  refine Kt.of mw_X4_init.1 (by decide +kernel) rfl (fun b => Nat.le_of_ble_eq_true rfl) (fun G p l e d b s m args below meth c hd C => ?_)
  have hao := C.2.2.2.2.2.2.2.2.2.2.2.1
  have haoa := C.2.2.2.2.2.2.2.2.2.2.2.2
  refine (?_ : Kw G p l e (RmK d 0 0) s m args below meth c 1 (AK b s.heap.size) 0 0 _ [(b, .inr (4, [.int 0, .int 0, .int 0, .int 0, .int 0, .int 0, .int 0, .int 0, .int 0]))] 0 [(0, .ref b)] [])
  refine K_aload_n C 0 dX4_init_0 rfl rfl ?_
  refine K_obj C (wu (tb1 (List.mem_of_getElem? (i := 160) (by decide +kernel))) rfl) qo_i qo_c (Nat.le_of_ble_eq_true rfl) (show 1 ≤ d by omega) (show _ ≤ 60 * d by omega) dX4_init_1 ?_
  exact K_ret C (fun i => ([] : List Nat).getD i 0) rfl (Nat.le_refl _) (Nat.le_refl _) dX4_init_4
theorem mw_X5_init : MW yX5_init cX5_init 1 none 0 ∧ Cond.instanceMethod yX5_init ∈ wsL_law := ⟨⟨wu (tb1 (List.mem_of_getElem? (i := 30) (by decide +kernel))) rfl, wu (tb1 (List.mem_of_getElem? (i := 2) (by decide +kernel))) rfl, ⟨by decide +kernel, by decide +kernel, by decide +kernel⟩, by decide⟩, wu (tb1 (List.mem_of_getElem? (i := 29) (by decide +kernel))) rfl⟩
set_option maxRecDepth 100000 in
set_option maxHeartbeats 4000000 in
theorem c5_init : Kt 1 yX5_init cX5_init 1 4 20 (.inr (5, [.int 0, .int 0, .int 0, .int 0, .int 0, .int 0, .null, .null, .null, .null])) [] (fun (G : Gx) (b : Nat) (r : Nat → Nat) => ([(b, .inr (5, [.int 20, .int 70, .int 0, .int 0, .int 0, .int 0, .ref (r 0), .ref (r 1), .ref (r 2), .ref (r 3)])), ((r 0), .inl (G.2.2.1 0, 5, .inl (fun _ => 0))), ((r 1), .inl (G.2.2.1 0, 5, .inl (fun _ => 0))), ((r 2), .inl (G.2.2.1 0, 5, .inl (fun _ => 0))), ((r 3), .inl (G.2.2.1 0, 5, .inl (fun _ => 0)))] : va_W)) := by
  refine Kt.of mw_X5_init.1 (by decide +kernel) rfl (fun b => Nat.le_of_ble_eq_true rfl) (fun G p l e d b s m args below meth c hd C => ?_)
  have hao := C.2.2.2.2.2.2.2.2.2.2.2.1
  have haoa := C.2.2.2.2.2.2.2.2.2.2.2.2
  refine (?_ : Kw G p l e (RmK d 4 20) s m args below meth c 1 (AK b s.heap.size) 0 0 _ [(b, .inr (5, [.int 0, .int 0, .int 0, .int 0, .int 0, .int 0, .null, .null, .null, .null]))] 0 [(0, .ref b)] [])
  refine K_aload_n C 0 dX5_init_0 rfl rfl ?_
  refine K_obj C (wu (tb1 (List.mem_of_getElem? (i := 31) (by decide +kernel))) rfl) qo_i qo_c (Nat.le_of_ble_eq_true rfl) (show 1 ≤ d by omega) (show _ ≤ 60 * d by omega) dX5_init_1 ?_
  refine K_aload_n C 0 dX5_init_4 rfl rfl ?_
  refine K_bipush C (w := 20) dX5_init_5 (by decide) ?_
  refine K_put (ref := RX5) (ty := .int) (k := 0) (q0 := 0) C tyX5 rfl rfl hinX5 tyX5_ok nmX5 (by decide) rfl rfl rfl rfl rfl (Nat.le_of_ble_eq_true rfl) (wu (tb1 (List.mem_of_getElem? (i := 32) (by decide +kernel))) rfl) dX5_init_7 ?_
  refine K_eq (ws' := ((b, .inr (5, [.int 20, .int 0, .int 0, .int 0, .int 0, .int 0, .null, .null, .null, .null])) :: [])) rfl ?_
  refine K_aload_n C 0 dX5_init_10 rfl rfl ?_
  refine K_bipush C (w := 70) dX5_init_11 (by decide) ?_
  refine K_put (ref := RX5) (ty := .int) (k := 1) (q0 := 0) C tyX5 rfl rfl hinX5 tyX5_ok nmX5 (by decide) rfl rfl rfl rfl rfl (Nat.le_of_ble_eq_true rfl) (wu (tb1 (List.mem_of_getElem? (i := 35) (by decide +kernel))) rfl) dX5_init_13 ?_
  refine K_eq (ws' := ((b, .inr (5, [.int 20, .int 70, .int 0, .int 0, .int 0, .int 0, .null, .null, .null, .null])) :: [])) rfl ?_
  refine K_aload_n C 0 dX5_init_16 rfl rfl ?_
  refine K_iconst C (w := 0) dX5_init_17 (by decide) ?_
  refine K_put (ref := RX5) (ty := .int) (k := 2) (q0 := 0) C tyX5 rfl rfl hinX5 tyX5_ok nmX5 (by decide) rfl rfl rfl rfl rfl (Nat.le_of_ble_eq_true rfl) (wu (tb1 (List.mem_of_getElem? (i := 37) (by decide +kernel))) rfl) dX5_init_18 ?_
  refine K_eq (ws' := ((b, .inr (5, [.int 20, .int 70, .int 0, .int 0, .int 0, .int 0, .null, .null, .null, .null])) :: [])) rfl ?_
  refine K_aload_n C 0 dX5_init_21 rfl rfl ?_
  refine K_iconst C (w := 0) dX5_init_22 (by decide) ?_
  refine K_put (ref := RX5) (ty := .int) (k := 3) (q0 := 0) C tyX5 rfl rfl hinX5 tyX5_ok nmX5 (by decide) rfl rfl rfl rfl rfl (Nat.le_of_ble_eq_true rfl) (wu (tb1 (List.mem_of_getElem? (i := 40) (by decide +kernel))) rfl) dX5_init_23 ?_
  refine K_eq (ws' := ((b, .inr (5, [.int 20, .int 70, .int 0, .int 0, .int 0, .int 0, .null, .null, .null, .null])) :: [])) rfl ?_
  refine K_aload_n C 0 dX5_init_26 rfl rfl ?_
  refine K_iconst C (w := 0) dX5_init_27 (by decide) ?_
  refine K_put (ref := RX5) (ty := .int) (k := 4) (q0 := 0) C tyX5 rfl rfl hinX5 tyX5_ok nmX5 (by decide) rfl rfl rfl rfl rfl (Nat.le_of_ble_eq_true rfl) (wu (tb1 (List.mem_of_getElem? (i := 42) (by decide +kernel))) rfl) dX5_init_28 ?_
  refine K_eq (ws' := ((b, .inr (5, [.int 20, .int 70, .int 0, .int 0, .int 0, .int 0, .null, .null, .null, .null])) :: [])) rfl ?_
  refine K_aload_n C 0 dX5_init_31 rfl rfl ?_
  refine K_iconst C (w := 0) dX5_init_32 (by decide) ?_
  refine K_put (ref := RX5) (ty := .int) (k := 5) (q0 := 0) C tyX5 rfl rfl hinX5 tyX5_ok nmX5 (by decide) rfl rfl rfl rfl rfl (Nat.le_of_ble_eq_true rfl) (wu (tb1 (List.mem_of_getElem? (i := 46) (by decide +kernel))) rfl) dX5_init_33 ?_
  refine K_eq (ws' := ((b, .inr (5, [.int 20, .int 70, .int 0, .int 0, .int 0, .int 0, .null, .null, .null, .null])) :: [])) rfl ?_
  refine K_aload_n C 0 dX5_init_36 rfl rfl ?_
  refine K_iconst C (w := 5) dX5_init_37 (by decide) ?_
  refine K_newI (N := 5) C qa_I (by decide) (by decide) (by decide) (Nat.le_of_ble_eq_true rfl) (Nat.le_of_ble_eq_true rfl) dX5_init_38 (fun q1 => ?_)
  refine K_eq (ws' := ((b, .inr (5, [.int 20, .int 70, .int 0, .int 0, .int 0, .int 0, .null, .null, .null, .null])) :: (q1, .inl (G.2.2.1 0, 5, .inl (fun _ => 0))) :: [])) rfl ?_
  refine K_putF (ref := RX5) (ty := (.array .int)) (k := 6) (q0 := 0) C tyX5 rfl rfl hinX5 tyX5_ok nmX5 (by decide) rfl rfl (by decide +kernel) rfl rfl rfl rfl (Nat.le_of_ble_eq_true rfl) (wu (tb1 (List.mem_of_getElem? (i := 51) (by decide +kernel))) rfl) dX5_init_40 ?_
  refine K_eq (ws' := ((b, .inr (5, [.int 20, .int 70, .int 0, .int 0, .int 0, .int 0, .ref q1, .null, .null, .null])) :: (q1, .inl (G.2.2.1 0, 5, .inl (fun _ => 0))) :: [])) rfl ?_
  refine K_aload_n C 0 dX5_init_43 rfl rfl ?_
  refine K_iconst C (w := 5) dX5_init_44 (by decide) ?_
  refine K_newI (N := 5) C qa_I (by decide) (by decide) (by decide) (Nat.le_of_ble_eq_true rfl) (Nat.le_of_ble_eq_true rfl) dX5_init_45 (fun q2 => ?_)
  refine K_eq (ws' := ((b, .inr (5, [.int 20, .int 70, .int 0, .int 0, .int 0, .int 0, .ref q1, .null, .null, .null])) :: (q1, .inl (G.2.2.1 0, 5, .inl (fun _ => 0))) :: (q2, .inl (G.2.2.1 0, 5, .inl (fun _ => 0))) :: [])) rfl ?_
  refine K_putF (ref := RX5) (ty := (.array .int)) (k := 7) (q0 := 0) C tyX5 rfl rfl hinX5 tyX5_ok nmX5 (by decide) rfl rfl (by decide +kernel) rfl rfl rfl rfl (Nat.le_of_ble_eq_true rfl) (wu (tb1 (List.mem_of_getElem? (i := 53) (by decide +kernel))) rfl) dX5_init_47 ?_
  refine K_eq (ws' := ((b, .inr (5, [.int 20, .int 70, .int 0, .int 0, .int 0, .int 0, .ref q1, .ref q2, .null, .null])) :: (q1, .inl (G.2.2.1 0, 5, .inl (fun _ => 0))) :: (q2, .inl (G.2.2.1 0, 5, .inl (fun _ => 0))) :: [])) rfl ?_
  refine K_aload_n C 0 dX5_init_50 rfl rfl ?_
  refine K_iconst C (w := 5) dX5_init_51 (by decide) ?_
  refine K_newI (N := 5) C qa_I (by decide) (by decide) (by decide) (Nat.le_of_ble_eq_true rfl) (Nat.le_of_ble_eq_true rfl) dX5_init_52 (fun q3 => ?_)
  refine K_eq (ws' := ((b, .inr (5, [.int 20, .int 70, .int 0, .int 0, .int 0, .int 0, .ref q1, .ref q2, .null, .null])) :: (q1, .inl (G.2.2.1 0, 5, .inl (fun _ => 0))) :: (q2, .inl (G.2.2.1 0, 5, .inl (fun _ => 0))) :: (q3, .inl (G.2.2.1 0, 5, .inl (fun _ => 0))) :: [])) rfl ?_
  refine K_putF (ref := RX5) (ty := (.array .int)) (k := 8) (q0 := 0) C tyX5 rfl rfl hinX5 tyX5_ok nmX5 (by decide) rfl rfl (by decide +kernel) rfl rfl rfl rfl (Nat.le_of_ble_eq_true rfl) (wu (tb1 (List.mem_of_getElem? (i := 55) (by decide +kernel))) rfl) dX5_init_54 ?_
  refine K_eq (ws' := ((b, .inr (5, [.int 20, .int 70, .int 0, .int 0, .int 0, .int 0, .ref q1, .ref q2, .ref q3, .null])) :: (q1, .inl (G.2.2.1 0, 5, .inl (fun _ => 0))) :: (q2, .inl (G.2.2.1 0, 5, .inl (fun _ => 0))) :: (q3, .inl (G.2.2.1 0, 5, .inl (fun _ => 0))) :: [])) rfl ?_
  refine K_aload_n C 0 dX5_init_57 rfl rfl ?_
  refine K_iconst C (w := 5) dX5_init_58 (by decide) ?_
  refine K_newI (N := 5) C qa_I (by decide) (by decide) (by decide) (Nat.le_of_ble_eq_true rfl) (Nat.le_of_ble_eq_true rfl) dX5_init_59 (fun q4 => ?_)
  refine K_eq (ws' := ((b, .inr (5, [.int 20, .int 70, .int 0, .int 0, .int 0, .int 0, .ref q1, .ref q2, .ref q3, .null])) :: (q1, .inl (G.2.2.1 0, 5, .inl (fun _ => 0))) :: (q2, .inl (G.2.2.1 0, 5, .inl (fun _ => 0))) :: (q3, .inl (G.2.2.1 0, 5, .inl (fun _ => 0))) :: (q4, .inl (G.2.2.1 0, 5, .inl (fun _ => 0))) :: [])) rfl ?_
  refine K_putF (ref := RX5) (ty := (.array .int)) (k := 9) (q0 := 0) C tyX5 rfl rfl hinX5 tyX5_ok nmX5 (by decide) rfl rfl (by decide +kernel) rfl rfl rfl rfl (Nat.le_of_ble_eq_true rfl) (wu (tb1 (List.mem_of_getElem? (i := 57) (by decide +kernel))) rfl) dX5_init_61 ?_
  refine K_eq (ws' := ((b, .inr (5, [.int 20, .int 70, .int 0, .int 0, .int 0, .int 0, .ref q1, .ref q2, .ref q3, .ref q4])) :: (q1, .inl (G.2.2.1 0, 5, .inl (fun _ => 0))) :: (q2, .inl (G.2.2.1 0, 5, .inl (fun _ => 0))) :: (q3, .inl (G.2.2.1 0, 5, .inl (fun _ => 0))) :: (q4, .inl (G.2.2.1 0, 5, .inl (fun _ => 0))) :: [])) rfl ?_
  exact K_ret C (fun i => ([q1, q2, q3, q4] : List Nat).getD i 0) rfl (Nat.le_refl _) (Nat.le_refl _) dX5_init_64
theorem mw_X6_init : MW yX6_init cX6_init 1 none 0 ∧ Cond.instanceMethod yX6_init ∈ wsL_law := ⟨⟨wu (tb2 (List.mem_of_getElem? (i := 57) (by decide +kernel))) rfl, wu (tb1 (List.mem_of_getElem? (i := 10) (by decide +kernel))) rfl, ⟨by decide +kernel, by decide +kernel, by decide +kernel⟩, by decide⟩, wu (tb2 (List.mem_of_getElem? (i := 56) (by decide +kernel))) rfl⟩
set_option maxRecDepth 100000 in
set_option maxHeartbeats 4000000 in
theorem c6_init : Kt 1 yX6_init cX6_init 1 1 40 (.inr (6, [.null, .int 0, .int 0])) [] (fun (G : Gx) (b : Nat) (r : Nat → Nat) => ([(b, .inr (6, [.ref (r 0), .int (-1), .int 0])), ((r 0), .inl (G.2.2.1 0, 40, .inl (fun _ => 0)))] : va_W)) := by
  refine Kt.of mw_X6_init.1 (by decide +kernel) rfl (fun b => Nat.le_of_ble_eq_true rfl) (fun G p l e d b s m args below meth c hd C => ?_)
  have hao := C.2.2.2.2.2.2.2.2.2.2.2.1
  have haoa := C.2.2.2.2.2.2.2.2.2.2.2.2
  refine (?_ : Kw G p l e (RmK d 1 40) s m args below meth c 1 (AK b s.heap.size) 0 0 _ [(b, .inr (6, [.null, .int 0, .int 0]))] 0 [(0, .ref b)] [])
  refine K_aload_n C 0 dX6_init_0 rfl rfl ?_
  refine K_obj C (wu (tb2 (List.mem_of_getElem? (i := 58) (by decide +kernel))) rfl) qo_i qo_c (Nat.le_of_ble_eq_true rfl) (show 1 ≤ d by omega) (show _ ≤ 60 * d by omega) dX6_init_1 ?_
  refine K_aload_n C 0 dX6_init_4 rfl rfl ?_
  refine K_bipush C (w := 40) dX6_init_5 (by decide) ?_
  refine K_newI (N := 40) C qa_I (by decide) (by decide) (by decide) (Nat.le_of_ble_eq_true rfl) (Nat.le_of_ble_eq_true rfl) dX6_init_7 (fun q1 => ?_)
  refine K_eq (ws' := ((b, .inr (6, [.null, .int 0, .int 0])) :: (q1, .inl (G.2.2.1 0, 40, .inl (fun _ => 0))) :: [])) rfl ?_
  refine K_putF (ref := RX6) (ty := (.array .int)) (k := 0) (q0 := 0) C tyX6 rfl rfl hinX6 tyX6_ok nmX6 (by decide) rfl rfl (by decide +kernel) rfl rfl rfl rfl (Nat.le_of_ble_eq_true rfl) (wu (tb2 (List.mem_of_getElem? (i := 59) (by decide +kernel))) rfl) dX6_init_9 ?_
  refine K_eq (ws' := ((b, .inr (6, [.ref q1, .int 0, .int 0])) :: (q1, .inl (G.2.2.1 0, 40, .inl (fun _ => 0))) :: [])) rfl ?_
  refine K_aload_n C 0 dX6_init_12 rfl rfl ?_
  refine K_iconst C (w := (-1)) dX6_init_13 (by decide) ?_
  refine K_put (ref := RX6) (ty := .int) (k := 1) (q0 := 0) C tyX6 rfl rfl hinX6 tyX6_ok nmX6 (by decide) rfl rfl rfl rfl rfl (Nat.le_of_ble_eq_true rfl) (wu (tb2 (List.mem_of_getElem? (i := 61) (by decide +kernel))) rfl) dX6_init_14 ?_
  refine K_eq (ws' := ((b, .inr (6, [.ref q1, .int (-1), .int 0])) :: (q1, .inl (G.2.2.1 0, 40, .inl (fun _ => 0))) :: [])) rfl ?_
  refine K_aload_n C 0 dX6_init_17 rfl rfl ?_
  refine K_iconst C (w := 0) dX6_init_18 (by decide) ?_
  refine K_put (ref := RX6) (ty := .int) (k := 2) (q0 := 0) C tyX6 rfl rfl hinX6 tyX6_ok nmX6 (by decide) rfl rfl rfl rfl rfl (Nat.le_of_ble_eq_true rfl) (wu (tb2 (List.mem_of_getElem? (i := 63) (by decide +kernel))) rfl) dX6_init_19 ?_
  refine K_eq (ws' := ((b, .inr (6, [.ref q1, .int (-1), .int 0])) :: (q1, .inl (G.2.2.1 0, 40, .inl (fun _ => 0))) :: [])) rfl ?_
  exact K_ret C (fun i => ([q1] : List Nat).getD i 0) rfl (Nat.le_refl _) (Nat.le_refl _) dX6_init_22
theorem mw_X7_init : MW yX7_init cX7_init 1 none 0 ∧ Cond.instanceMethod yX7_init ∈ wsL_law := ⟨⟨wu (tb1 (List.mem_of_getElem? (i := 85) (by decide +kernel))) rfl, wu (tb1 (List.mem_of_getElem? (i := 3) (by decide +kernel))) rfl, ⟨by decide +kernel, by decide +kernel, by decide +kernel⟩, by decide⟩, wu (tb1 (List.mem_of_getElem? (i := 84) (by decide +kernel))) rfl⟩
set_option maxRecDepth 100000 in
set_option maxHeartbeats 4000000 in
theorem c7_init : Kt 1 yX7_init cX7_init 1 1 160 (.inr (7, [.null, .int 0, .int 0, .int 0, .int 0])) [] (fun (G : Gx) (b : Nat) (r : Nat → Nat) => ([(b, .inr (7, [.ref (r 0), .int 0, .int (-22), .int 0, .int 0])), ((r 0), .inl (G.2.2.1 0, 160, .inl (fun _ => 0)))] : va_W)) := by
  refine Kt.of mw_X7_init.1 (by decide +kernel) rfl (fun b => Nat.le_of_ble_eq_true rfl) (fun G p l e d b s m args below meth c hd C => ?_)
  have hao := C.2.2.2.2.2.2.2.2.2.2.2.1
  have haoa := C.2.2.2.2.2.2.2.2.2.2.2.2
  refine (?_ : Kw G p l e (RmK d 1 160) s m args below meth c 1 (AK b s.heap.size) 0 0 _ [(b, .inr (7, [.null, .int 0, .int 0, .int 0, .int 0]))] 0 [(0, .ref b)] [])
  refine K_aload_n C 0 dX7_init_0 rfl rfl ?_
  refine K_obj C (wu (tb1 (List.mem_of_getElem? (i := 86) (by decide +kernel))) rfl) qo_i qo_c (Nat.le_of_ble_eq_true rfl) (show 1 ≤ d by omega) (show _ ≤ 60 * d by omega) dX7_init_1 ?_
  refine K_aload_n C 0 dX7_init_4 rfl rfl ?_
  refine K_sipush C (w := 160) dX7_init_5 (by decide) ?_
  refine K_newI (N := 160) C qa_I (by decide) (by decide) (by decide) (Nat.le_of_ble_eq_true rfl) (Nat.le_of_ble_eq_true rfl) dX7_init_8 (fun q1 => ?_)
  refine K_eq (ws' := ((b, .inr (7, [.null, .int 0, .int 0, .int 0, .int 0])) :: (q1, .inl (G.2.2.1 0, 160, .inl (fun _ => 0))) :: [])) rfl ?_
  refine K_putF (ref := RX7) (ty := (.array .int)) (k := 0) (q0 := 0) C tyX7 rfl rfl hinX7 tyX7_ok nmX7 (by decide) rfl rfl (by decide +kernel) rfl rfl rfl rfl (Nat.le_of_ble_eq_true rfl) (wu (tb1 (List.mem_of_getElem? (i := 87) (by decide +kernel))) rfl) dX7_init_10 ?_
  refine K_eq (ws' := ((b, .inr (7, [.ref q1, .int 0, .int 0, .int 0, .int 0])) :: (q1, .inl (G.2.2.1 0, 160, .inl (fun _ => 0))) :: [])) rfl ?_
  refine K_aload_n C 0 dX7_init_13 rfl rfl ?_
  refine K_iconst C (w := 0) dX7_init_14 (by decide) ?_
  refine K_put (ref := RX7) (ty := .int) (k := 1) (q0 := 0) C tyX7 rfl rfl hinX7 tyX7_ok nmX7 (by decide) rfl rfl rfl rfl rfl (Nat.le_of_ble_eq_true rfl) (wu (tb1 (List.mem_of_getElem? (i := 88) (by decide +kernel))) rfl) dX7_init_15 ?_
  refine K_eq (ws' := ((b, .inr (7, [.ref q1, .int 0, .int 0, .int 0, .int 0])) :: (q1, .inl (G.2.2.1 0, 160, .inl (fun _ => 0))) :: [])) rfl ?_
  refine K_aload_n C 0 dX7_init_18 rfl rfl ?_
  refine K_bipush C (w := (-22)) dX7_init_19 (by decide) ?_
  refine K_put (ref := RX7) (ty := .int) (k := 2) (q0 := 0) C tyX7 rfl rfl hinX7 tyX7_ok nmX7 (by decide) rfl rfl rfl rfl rfl (Nat.le_of_ble_eq_true rfl) (wu (tb1 (List.mem_of_getElem? (i := 90) (by decide +kernel))) rfl) dX7_init_21 ?_
  refine K_eq (ws' := ((b, .inr (7, [.ref q1, .int 0, .int (-22), .int 0, .int 0])) :: (q1, .inl (G.2.2.1 0, 160, .inl (fun _ => 0))) :: [])) rfl ?_
  refine K_aload_n C 0 dX7_init_24 rfl rfl ?_
  refine K_iconst C (w := 0) dX7_init_25 (by decide) ?_
  refine K_put (ref := RX7) (ty := .int) (k := 3) (q0 := 0) C tyX7 rfl rfl hinX7 tyX7_ok nmX7 (by decide) rfl rfl rfl rfl rfl (Nat.le_of_ble_eq_true rfl) (wu (tb1 (List.mem_of_getElem? (i := 92) (by decide +kernel))) rfl) dX7_init_26 ?_
  refine K_eq (ws' := ((b, .inr (7, [.ref q1, .int 0, .int (-22), .int 0, .int 0])) :: (q1, .inl (G.2.2.1 0, 160, .inl (fun _ => 0))) :: [])) rfl ?_
  refine K_aload_n C 0 dX7_init_29 rfl rfl ?_
  refine K_iconst C (w := 0) dX7_init_30 (by decide) ?_
  refine K_put (ref := RX7) (ty := .int) (k := 4) (q0 := 0) C tyX7 rfl rfl hinX7 tyX7_ok nmX7 (by decide) rfl rfl rfl rfl rfl (Nat.le_of_ble_eq_true rfl) (wu (tb1 (List.mem_of_getElem? (i := 94) (by decide +kernel))) rfl) dX7_init_31 ?_
  refine K_eq (ws' := ((b, .inr (7, [.ref q1, .int 0, .int (-22), .int 0, .int 0])) :: (q1, .inl (G.2.2.1 0, 160, .inl (fun _ => 0))) :: [])) rfl ?_
  exact K_ret C (fun i => ([q1] : List Nat).getD i 0) rfl (Nat.le_refl _) (Nat.le_refl _) dX7_init_34
theorem mw_X8_init : MW yX8_init cX8_init 1 none 0 ∧ Cond.instanceMethod yX8_init ∈ wsL_law := ⟨⟨wu (tb1 (List.mem_of_getElem? (i := 110) (by decide +kernel))) rfl, wu (tb1 (List.mem_of_getElem? (i := 4) (by decide +kernel))) rfl, ⟨by decide +kernel, by decide +kernel, by decide +kernel⟩, by decide⟩, wu (tb1 (List.mem_of_getElem? (i := 109) (by decide +kernel))) rfl⟩
set_option maxRecDepth 100000 in
set_option maxHeartbeats 4000000 in
theorem c8_init : Kt 1 yX8_init cX8_init 1 11 1144 (.inr (8, [.null, .null, .null, .null, .null, .int 0])) [] (fun (G : Gx) (b : Nat) (r : Nat → Nat) => ([(b, .inr (8, [.ref (r 0), .ref (r 7), .ref (r 8), .ref (r 9), .ref (r 10), .int 0])), ((r 0), .inl (G.2.2.1 2, 6, .inr (.inr (.inr (.inr (fun i => if i < 6 then some (([(r 1), (r 2), (r 3), (r 4), (r 5), (r 6)] : List Nat).getD i 0) else none)))))), ((r 1), .inl (G.2.2.1 0, 160, .inl (fun _ => 0))), ((r 2), .inl (G.2.2.1 0, 160, .inl (fun _ => 0))), ((r 3), .inl (G.2.2.1 0, 160, .inl (fun _ => 0))), ((r 4), .inl (G.2.2.1 0, 160, .inl (fun _ => 0))), ((r 5), .inl (G.2.2.1 0, 160, .inl (fun _ => 0))), ((r 6), .inl (G.2.2.1 0, 160, .inl (fun _ => 0))), ((r 7), .inl (G.2.2.1 0, 6, .inl (fun _ => 0))), ((r 8), .inl (G.2.2.1 0, 6, .inl (fun _ => 0))), ((r 9), .inl (G.2.2.1 0, 6, .inl (fun _ => 0))), ((r 10), .inl (G.2.2.1 0, 160, .inl (fun _ => 0)))] : va_W)) := by
  refine Kt.of mw_X8_init.1 (by decide +kernel) rfl (fun b => Nat.le_of_ble_eq_true rfl) (fun G p l e d b s m args below meth c hd C => ?_)
  have hao := C.2.2.2.2.2.2.2.2.2.2.2.1
  have haoa := C.2.2.2.2.2.2.2.2.2.2.2.2
  refine (?_ : Kw G p l e (RmK d 11 1144) s m args below meth c 1 (AK b s.heap.size) 0 0 _ [(b, .inr (8, [.null, .null, .null, .null, .null, .int 0]))] 0 [(0, .ref b)] [])
  refine K_aload_n C 0 dX8_init_0 rfl rfl ?_
  refine K_obj C (wu (tb1 (List.mem_of_getElem? (i := 111) (by decide +kernel))) rfl) qo_i qo_c (Nat.le_of_ble_eq_true rfl) (show 1 ≤ d by omega) (show _ ≤ 60 * d by omega) dX8_init_1 ?_
  refine K_aload_n C 0 dX8_init_4 rfl rfl ?_
  refine K_bipush C (w := 6) dX8_init_5 (by decide) ?_
  refine K_sipush C (w := 160) dX8_init_7 (by decide) ?_
  refine K_mna (N := 6) (K := 160) C (wu (tb1 (List.mem_of_getElem? (i := 112) (by decide +kernel))) rfl) haoa qa_I (by decide) (by decide) (by decide) (by decide) (by decide) (Nat.le_of_ble_eq_true rfl) (Nat.le_of_ble_eq_true rfl) dX8_init_10 (fun q1 u1 => ?_)
  refine K_eq (ws' := ((b, .inr (8, [.null, .null, .null, .null, .null, .int 0])) :: (q1, .inl (G.2.2.1 2, 6, .inr (.inr (.inr (.inr (fun i => if i < 6 then some (u1 i) else none)))))) :: ((u1 0), .inl (G.2.2.1 0, 160, .inl (fun _ => 0))) :: ((u1 1), .inl (G.2.2.1 0, 160, .inl (fun _ => 0))) :: ((u1 2), .inl (G.2.2.1 0, 160, .inl (fun _ => 0))) :: ((u1 3), .inl (G.2.2.1 0, 160, .inl (fun _ => 0))) :: ((u1 4), .inl (G.2.2.1 0, 160, .inl (fun _ => 0))) :: ((u1 5), .inl (G.2.2.1 0, 160, .inl (fun _ => 0))) :: [])) rfl ?_
  refine K_putF (ref := RX8) (ty := (.array (.array .int))) (k := 0) (q0 := 0) C tyX8 rfl rfl hinX8 tyX8_ok nmX8 (by decide) rfl rfl (by decide +kernel) rfl rfl rfl rfl (Nat.le_of_ble_eq_true rfl) (wu (tb1 (List.mem_of_getElem? (i := 114) (by decide +kernel))) rfl) dX8_init_14 ?_
  refine K_eq (ws' := ((b, .inr (8, [.ref q1, .null, .null, .null, .null, .int 0])) :: (q1, .inl (G.2.2.1 2, 6, .inr (.inr (.inr (.inr (fun i => if i < 6 then some (u1 i) else none)))))) :: ((u1 0), .inl (G.2.2.1 0, 160, .inl (fun _ => 0))) :: ((u1 1), .inl (G.2.2.1 0, 160, .inl (fun _ => 0))) :: ((u1 2), .inl (G.2.2.1 0, 160, .inl (fun _ => 0))) :: ((u1 3), .inl (G.2.2.1 0, 160, .inl (fun _ => 0))) :: ((u1 4), .inl (G.2.2.1 0, 160, .inl (fun _ => 0))) :: ((u1 5), .inl (G.2.2.1 0, 160, .inl (fun _ => 0))) :: [])) rfl ?_
  refine K_aload_n C 0 dX8_init_17 rfl rfl ?_
  refine K_bipush C (w := 6) dX8_init_18 (by decide) ?_
  refine K_newI (N := 6) C qa_I (by decide) (by decide) (by decide) (Nat.le_of_ble_eq_true rfl) (Nat.le_of_ble_eq_true rfl) dX8_init_20 (fun q2 => ?_)
  refine K_eq (ws' := ((b, .inr (8, [.ref q1, .null, .null, .null, .null, .int 0])) :: (q1, .inl (G.2.2.1 2, 6, .inr (.inr (.inr (.inr (fun i => if i < 6 then some (u1 i) else none)))))) :: ((u1 0), .inl (G.2.2.1 0, 160, .inl (fun _ => 0))) :: ((u1 1), .inl (G.2.2.1 0, 160, .inl (fun _ => 0))) :: ((u1 2), .inl (G.2.2.1 0, 160, .inl (fun _ => 0))) :: ((u1 3), .inl (G.2.2.1 0, 160, .inl (fun _ => 0))) :: ((u1 4), .inl (G.2.2.1 0, 160, .inl (fun _ => 0))) :: ((u1 5), .inl (G.2.2.1 0, 160, .inl (fun _ => 0))) :: (q2, .inl (G.2.2.1 0, 6, .inl (fun _ => 0))) :: [])) rfl ?_
  refine K_putF (ref := RX8) (ty := (.array .int)) (k := 1) (q0 := 0) C tyX8 rfl rfl hinX8 tyX8_ok nmX8 (by decide) rfl rfl (by decide +kernel) rfl rfl rfl rfl (Nat.le_of_ble_eq_true rfl) (wu (tb1 (List.mem_of_getElem? (i := 115) (by decide +kernel))) rfl) dX8_init_22 ?_
  refine K_eq (ws' := ((b, .inr (8, [.ref q1, .ref q2, .null, .null, .null, .int 0])) :: (q1, .inl (G.2.2.1 2, 6, .inr (.inr (.inr (.inr (fun i => if i < 6 then some (u1 i) else none)))))) :: ((u1 0), .inl (G.2.2.1 0, 160, .inl (fun _ => 0))) :: ((u1 1), .inl (G.2.2.1 0, 160, .inl (fun _ => 0))) :: ((u1 2), .inl (G.2.2.1 0, 160, .inl (fun _ => 0))) :: ((u1 3), .inl (G.2.2.1 0, 160, .inl (fun _ => 0))) :: ((u1 4), .inl (G.2.2.1 0, 160, .inl (fun _ => 0))) :: ((u1 5), .inl (G.2.2.1 0, 160, .inl (fun _ => 0))) :: (q2, .inl (G.2.2.1 0, 6, .inl (fun _ => 0))) :: [])) rfl ?_
  refine K_aload_n C 0 dX8_init_25 rfl rfl ?_
  refine K_bipush C (w := 6) dX8_init_26 (by decide) ?_
  refine K_newI (N := 6) C qa_I (by decide) (by decide) (by decide) (Nat.le_of_ble_eq_true rfl) (Nat.le_of_ble_eq_true rfl) dX8_init_28 (fun q3 => ?_)
  refine K_eq (ws' := ((b, .inr (8, [.ref q1, .ref q2, .null, .null, .null, .int 0])) :: (q1, .inl (G.2.2.1 2, 6, .inr (.inr (.inr (.inr (fun i => if i < 6 then some (u1 i) else none)))))) :: ((u1 0), .inl (G.2.2.1 0, 160, .inl (fun _ => 0))) :: ((u1 1), .inl (G.2.2.1 0, 160, .inl (fun _ => 0))) :: ((u1 2), .inl (G.2.2.1 0, 160, .inl (fun _ => 0))) :: ((u1 3), .inl (G.2.2.1 0, 160, .inl (fun _ => 0))) :: ((u1 4), .inl (G.2.2.1 0, 160, .inl (fun _ => 0))) :: ((u1 5), .inl (G.2.2.1 0, 160, .inl (fun _ => 0))) :: (q2, .inl (G.2.2.1 0, 6, .inl (fun _ => 0))) :: (q3, .inl (G.2.2.1 0, 6, .inl (fun _ => 0))) :: [])) rfl ?_
  refine K_putF (ref := RX8) (ty := (.array .int)) (k := 2) (q0 := 0) C tyX8 rfl rfl hinX8 tyX8_ok nmX8 (by decide) rfl rfl (by decide +kernel) rfl rfl rfl rfl (Nat.le_of_ble_eq_true rfl) (wu (tb1 (List.mem_of_getElem? (i := 116) (by decide +kernel))) rfl) dX8_init_30 ?_
  refine K_eq (ws' := ((b, .inr (8, [.ref q1, .ref q2, .ref q3, .null, .null, .int 0])) :: (q1, .inl (G.2.2.1 2, 6, .inr (.inr (.inr (.inr (fun i => if i < 6 then some (u1 i) else none)))))) :: ((u1 0), .inl (G.2.2.1 0, 160, .inl (fun _ => 0))) :: ((u1 1), .inl (G.2.2.1 0, 160, .inl (fun _ => 0))) :: ((u1 2), .inl (G.2.2.1 0, 160, .inl (fun _ => 0))) :: ((u1 3), .inl (G.2.2.1 0, 160, .inl (fun _ => 0))) :: ((u1 4), .inl (G.2.2.1 0, 160, .inl (fun _ => 0))) :: ((u1 5), .inl (G.2.2.1 0, 160, .inl (fun _ => 0))) :: (q2, .inl (G.2.2.1 0, 6, .inl (fun _ => 0))) :: (q3, .inl (G.2.2.1 0, 6, .inl (fun _ => 0))) :: [])) rfl ?_
  refine K_aload_n C 0 dX8_init_33 rfl rfl ?_
  refine K_bipush C (w := 6) dX8_init_34 (by decide) ?_
  refine K_newI (N := 6) C qa_I (by decide) (by decide) (by decide) (Nat.le_of_ble_eq_true rfl) (Nat.le_of_ble_eq_true rfl) dX8_init_36 (fun q4 => ?_)
  refine K_eq (ws' := ((b, .inr (8, [.ref q1, .ref q2, .ref q3, .null, .null, .int 0])) :: (q1, .inl (G.2.2.1 2, 6, .inr (.inr (.inr (.inr (fun i => if i < 6 then some (u1 i) else none)))))) :: ((u1 0), .inl (G.2.2.1 0, 160, .inl (fun _ => 0))) :: ((u1 1), .inl (G.2.2.1 0, 160, .inl (fun _ => 0))) :: ((u1 2), .inl (G.2.2.1 0, 160, .inl (fun _ => 0))) :: ((u1 3), .inl (G.2.2.1 0, 160, .inl (fun _ => 0))) :: ((u1 4), .inl (G.2.2.1 0, 160, .inl (fun _ => 0))) :: ((u1 5), .inl (G.2.2.1 0, 160, .inl (fun _ => 0))) :: (q2, .inl (G.2.2.1 0, 6, .inl (fun _ => 0))) :: (q3, .inl (G.2.2.1 0, 6, .inl (fun _ => 0))) :: (q4, .inl (G.2.2.1 0, 6, .inl (fun _ => 0))) :: [])) rfl ?_
  refine K_putF (ref := RX8) (ty := (.array .int)) (k := 3) (q0 := 0) C tyX8 rfl rfl hinX8 tyX8_ok nmX8 (by decide) rfl rfl (by decide +kernel) rfl rfl rfl rfl (Nat.le_of_ble_eq_true rfl) (wu (tb1 (List.mem_of_getElem? (i := 117) (by decide +kernel))) rfl) dX8_init_38 ?_
  refine K_eq (ws' := ((b, .inr (8, [.ref q1, .ref q2, .ref q3, .ref q4, .null, .int 0])) :: (q1, .inl (G.2.2.1 2, 6, .inr (.inr (.inr (.inr (fun i => if i < 6 then some (u1 i) else none)))))) :: ((u1 0), .inl (G.2.2.1 0, 160, .inl (fun _ => 0))) :: ((u1 1), .inl (G.2.2.1 0, 160, .inl (fun _ => 0))) :: ((u1 2), .inl (G.2.2.1 0, 160, .inl (fun _ => 0))) :: ((u1 3), .inl (G.2.2.1 0, 160, .inl (fun _ => 0))) :: ((u1 4), .inl (G.2.2.1 0, 160, .inl (fun _ => 0))) :: ((u1 5), .inl (G.2.2.1 0, 160, .inl (fun _ => 0))) :: (q2, .inl (G.2.2.1 0, 6, .inl (fun _ => 0))) :: (q3, .inl (G.2.2.1 0, 6, .inl (fun _ => 0))) :: (q4, .inl (G.2.2.1 0, 6, .inl (fun _ => 0))) :: [])) rfl ?_
  refine K_aload_n C 0 dX8_init_41 rfl rfl ?_
  refine K_sipush C (w := 160) dX8_init_42 (by decide) ?_
  refine K_newI (N := 160) C qa_I (by decide) (by decide) (by decide) (Nat.le_of_ble_eq_true rfl) (Nat.le_of_ble_eq_true rfl) dX8_init_45 (fun q5 => ?_)
  refine K_eq (ws' := ((b, .inr (8, [.ref q1, .ref q2, .ref q3, .ref q4, .null, .int 0])) :: (q1, .inl (G.2.2.1 2, 6, .inr (.inr (.inr (.inr (fun i => if i < 6 then some (u1 i) else none)))))) :: ((u1 0), .inl (G.2.2.1 0, 160, .inl (fun _ => 0))) :: ((u1 1), .inl (G.2.2.1 0, 160, .inl (fun _ => 0))) :: ((u1 2), .inl (G.2.2.1 0, 160, .inl (fun _ => 0))) :: ((u1 3), .inl (G.2.2.1 0, 160, .inl (fun _ => 0))) :: ((u1 4), .inl (G.2.2.1 0, 160, .inl (fun _ => 0))) :: ((u1 5), .inl (G.2.2.1 0, 160, .inl (fun _ => 0))) :: (q2, .inl (G.2.2.1 0, 6, .inl (fun _ => 0))) :: (q3, .inl (G.2.2.1 0, 6, .inl (fun _ => 0))) :: (q4, .inl (G.2.2.1 0, 6, .inl (fun _ => 0))) :: (q5, .inl (G.2.2.1 0, 160, .inl (fun _ => 0))) :: [])) rfl ?_
  refine K_putF (ref := RX8) (ty := (.array .int)) (k := 4) (q0 := 0) C tyX8 rfl rfl hinX8 tyX8_ok nmX8 (by decide) rfl rfl (by decide +kernel) rfl rfl rfl rfl (Nat.le_of_ble_eq_true rfl) (wu (tb1 (List.mem_of_getElem? (i := 118) (by decide +kernel))) rfl) dX8_init_47 ?_
  refine K_eq (ws' := ((b, .inr (8, [.ref q1, .ref q2, .ref q3, .ref q4, .ref q5, .int 0])) :: (q1, .inl (G.2.2.1 2, 6, .inr (.inr (.inr (.inr (fun i => if i < 6 then some (u1 i) else none)))))) :: ((u1 0), .inl (G.2.2.1 0, 160, .inl (fun _ => 0))) :: ((u1 1), .inl (G.2.2.1 0, 160, .inl (fun _ => 0))) :: ((u1 2), .inl (G.2.2.1 0, 160, .inl (fun _ => 0))) :: ((u1 3), .inl (G.2.2.1 0, 160, .inl (fun _ => 0))) :: ((u1 4), .inl (G.2.2.1 0, 160, .inl (fun _ => 0))) :: ((u1 5), .inl (G.2.2.1 0, 160, .inl (fun _ => 0))) :: (q2, .inl (G.2.2.1 0, 6, .inl (fun _ => 0))) :: (q3, .inl (G.2.2.1 0, 6, .inl (fun _ => 0))) :: (q4, .inl (G.2.2.1 0, 6, .inl (fun _ => 0))) :: (q5, .inl (G.2.2.1 0, 160, .inl (fun _ => 0))) :: [])) rfl ?_
  refine K_aload_n C 0 dX8_init_50 rfl rfl ?_
  refine K_iconst C (w := 0) dX8_init_51 (by decide) ?_
  refine K_put (ref := RX8) (ty := .int) (k := 5) (q0 := 0) C tyX8 rfl rfl hinX8 tyX8_ok nmX8 (by decide) rfl rfl rfl rfl rfl (Nat.le_of_ble_eq_true rfl) (wu (tb1 (List.mem_of_getElem? (i := 119) (by decide +kernel))) rfl) dX8_init_52 ?_
  refine K_eq (ws' := ((b, .inr (8, [.ref q1, .ref q2, .ref q3, .ref q4, .ref q5, .int 0])) :: (q1, .inl (G.2.2.1 2, 6, .inr (.inr (.inr (.inr (fun i => if i < 6 then some (u1 i) else none)))))) :: ((u1 0), .inl (G.2.2.1 0, 160, .inl (fun _ => 0))) :: ((u1 1), .inl (G.2.2.1 0, 160, .inl (fun _ => 0))) :: ((u1 2), .inl (G.2.2.1 0, 160, .inl (fun _ => 0))) :: ((u1 3), .inl (G.2.2.1 0, 160, .inl (fun _ => 0))) :: ((u1 4), .inl (G.2.2.1 0, 160, .inl (fun _ => 0))) :: ((u1 5), .inl (G.2.2.1 0, 160, .inl (fun _ => 0))) :: (q2, .inl (G.2.2.1 0, 6, .inl (fun _ => 0))) :: (q3, .inl (G.2.2.1 0, 6, .inl (fun _ => 0))) :: (q4, .inl (G.2.2.1 0, 6, .inl (fun _ => 0))) :: (q5, .inl (G.2.2.1 0, 160, .inl (fun _ => 0))) :: [])) rfl ?_
  refine K_ret C (fun i => ([q1, (u1 0), (u1 1), (u1 2), (u1 3), (u1 4), (u1 5), q2, q3, q4, q5] : List Nat).getD i 0) ?_ (Nat.le_refl _) (Nat.le_refl _) dX8_init_55
  have hx : ∀ (u : Nat → Nat), (fun i => if i < 6 then some (u i) else none) = (fun i => if i < 6 then some (([u 0, u 1, u 2, u 3, u 4, u 5] : List Nat).getD i 0) else none) := by
    intro u
    funext i
    match i with
    | 0 => rfl
    | 1 => rfl
    | 2 => rfl
    | 3 => rfl
    | 4 => rfl
    | 5 => rfl
    | k + 6 => rfl
  rw [hx]
  rfl
theorem mw_X2_init : MW yX2_init cX2_init 3 none 2 ∧ Cond.instanceMethod yX2_init ∈ wsL_law := ⟨⟨wu (tb1 (List.mem_of_getElem? (i := 138) (by decide +kernel))) rfl, wu (tb1 (List.mem_of_getElem? (i := 5) (by decide +kernel))) rfl, ⟨by decide +kernel, by decide +kernel, by decide +kernel⟩, by decide⟩, wu (tb1 (List.mem_of_getElem? (i := 137) (by decide +kernel))) rfl⟩
set_option maxRecDepth 100000 in
set_option maxHeartbeats 4000000 in
theorem c2_init (a1 : Nat) (a2 : Nat) : Kt 1 yX2_init cX2_init 3 0 0 (.inr (2, [.null, .null])) [.ref a1, .ref a2] (fun (G : Gx) (b : Nat) (r : Nat → Nat) => ([(b, .inr (2, [.ref a1, .ref a2]))] : va_W)) := by
  refine Kt.of mw_X2_init.1 (by decide +kernel) rfl (fun b => Nat.le_of_ble_eq_true rfl) (fun G p l e d b s m args below meth c hd C => ?_)
  have hao := C.2.2.2.2.2.2.2.2.2.2.2.1
  have haoa := C.2.2.2.2.2.2.2.2.2.2.2.2
  refine (?_ : Kw G p l e (RmK d 0 0) s m args below meth c 3 (AK b s.heap.size) 0 0 _ [(b, .inr (2, [.null, .null]))] 0 [(0, .ref b), (1, .ref a1), (2, .ref a2)] [])
  refine K_aload_n C 0 dX2_init_0 rfl rfl ?_
  refine K_obj C (wu (tb1 (List.mem_of_getElem? (i := 139) (by decide +kernel))) rfl) qo_i qo_c (Nat.le_of_ble_eq_true rfl) (show 1 ≤ d by omega) (show _ ≤ 60 * d by omega) dX2_init_1 ?_
  refine K_aload_n C 0 dX2_init_4 rfl rfl ?_
  refine K_aload_n C 1 dX2_init_5 rfl rfl ?_
  refine K_putF (ref := RX2) (ty := (.object "SamovarOpinions$Tape")) (k := 0) (q0 := 0) C tyX2 rfl rfl hinX2 tyX2_ok nmX2 (by decide) rfl rfl (by decide +kernel) rfl rfl rfl rfl (Nat.le_of_ble_eq_true rfl) (wu (tb1 (List.mem_of_getElem? (i := 140) (by decide +kernel))) rfl) dX2_init_6 ?_
  refine K_eq (ws' := ((b, .inr (2, [.ref a1, .null])) :: [])) rfl ?_
  refine K_aload_n C 0 dX2_init_9 rfl rfl ?_
  refine K_aload_n C 2 dX2_init_10 rfl rfl ?_
  refine K_putF (ref := RX2) (ty := (.object "SamovarOpinions$Texts")) (k := 1) (q0 := 0) C tyX2 rfl rfl hinX2 tyX2_ok nmX2 (by decide) rfl rfl (by decide +kernel) rfl rfl rfl rfl (Nat.le_of_ble_eq_true rfl) (wu (tb1 (List.mem_of_getElem? (i := 141) (by decide +kernel))) rfl) dX2_init_11 ?_
  refine K_eq (ws' := ((b, .inr (2, [.ref a1, .ref a2])) :: [])) rfl ?_
  exact K_ret C (fun i => ([] : List Nat).getD i 0) rfl (Nat.le_refl _) (Nat.le_refl _) dX2_init_14
theorem mw_X1_init : MW yX1_init cX1_init 3 none 2 ∧ Cond.instanceMethod yX1_init ∈ wsL_law := ⟨⟨wu (tb1 (List.mem_of_getElem? (i := 153) (by decide +kernel))) rfl, wu (tb1 (List.mem_of_getElem? (i := 6) (by decide +kernel))) rfl, ⟨by decide +kernel, by decide +kernel, by decide +kernel⟩, by decide⟩, wu (tb1 (List.mem_of_getElem? (i := 152) (by decide +kernel))) rfl⟩
set_option maxRecDepth 100000 in
set_option maxHeartbeats 4000000 in
theorem c1_init (a1 : Nat) (a2 : Nat) : Kt 2 yX1_init cX1_init 3 6 34 (.inr (1, [.null, .null, .null, .null, .null, .null, .null, .null, .int 0, .int 0])) [.ref a1, .ref a2] (fun (G : Gx) (b : Nat) (r : Nat → Nat) => ([(b, .inr (1, [.ref a1, .ref a2, .ref (r 0), .ref (r 1), .ref (r 2), .ref (r 3), .ref (r 4), .ref (r 5), .int 0, .int 0])), ((r 0), .inr (4, [.int 0, .int 0, .int 0, .int 0, .int 0, .int 0, .int 0, .int 0, .int 0])), ((r 1), .inl (G.2.2.1 0, 5, .inl (fun _ => 0))), ((r 2), .inl (G.2.2.1 0, 5, .inl (fun _ => 0))), ((r 3), .inl (G.2.2.1 0, 5, .inl (fun _ => 0))), ((r 4), .inl (G.2.2.1 1, 5, .inl (fun _ => 0))), ((r 5), .inl (G.2.2.1 1, 5, .inl (fun _ => 0)))] : va_W)) := by
  refine Kt.of mw_X1_init.1 (by decide +kernel) rfl (fun b => Nat.le_of_ble_eq_true rfl) (fun G p l e d b s m args below meth c hd C => ?_)
  have hao := C.2.2.2.2.2.2.2.2.2.2.2.1
  have haoa := C.2.2.2.2.2.2.2.2.2.2.2.2
  refine (?_ : Kw G p l e (RmK d 6 34) s m args below meth c 3 (AK b s.heap.size) 0 0 _ [(b, .inr (1, [.null, .null, .null, .null, .null, .null, .null, .null, .int 0, .int 0]))] 0 [(0, .ref b), (1, .ref a1), (2, .ref a2)] [])
  refine K_aload_n C 0 dX1_init_0 rfl rfl ?_
  refine K_obj C (wu (tb1 (List.mem_of_getElem? (i := 154) (by decide +kernel))) rfl) qo_i qo_c (Nat.le_of_ble_eq_true rfl) (show 1 ≤ d by omega) (show _ ≤ 60 * d by omega) dX1_init_1 ?_
  refine K_aload_n C 0 dX1_init_4 rfl rfl ?_
  refine K_new (ci := 4) (fs := [.int 0, .int 0, .int 0, .int 0, .int 0, .int 0, .int 0, .int 0, .int 0]) C tyX4 hinX4 tyX4_ok (wu (tb1 (List.mem_of_getElem? (i := 155) (by decide +kernel))) rfl) (wu (tb1 (List.mem_of_getElem? (i := 156) (by decide +kernel))) rfl) (wu (tb1 (List.mem_of_getElem? (i := 7) (by decide +kernel))) rfl) rfl (fun j hj => by rcases (show j = 0 ∨ j = 1 ∨ j = 2 ∨ j = 3 ∨ j = 4 ∨ j = 5 ∨ j = 6 ∨ j = 7 ∨ j = 8 by omega) with rfl | rfl | rfl | rfl | rfl | rfl | rfl | rfl | rfl <;> rfl) (Nat.le_of_ble_eq_true rfl) (Nat.le_of_ble_eq_true rfl) dX1_init_5 (fun q1 => ?_)
  refine K_eq (ws' := ((b, .inr (1, [.null, .null, .null, .null, .null, .null, .null, .null, .int 0, .int 0])) :: []) ++ [(q1, .inr (4, [.int 0, .int 0, .int 0, .int 0, .int 0, .int 0, .int 0, .int 0, .int 0]))]) rfl ?_
  refine K_dup C dX1_init_8 rfl ?_
  refine K_initN (R := RmK d 6 34) (cells := 1) (slots := 9) (ws := ((b, .inr (1, [.null, .null, .null, .null, .null, .null, .null, .null, .int 0, .int 0])) :: [])) (b := q1) (av := []) (host := "SamovarOpinions") C (c4_init) mw_X4_init.1 rfl mw_X4_init.2 (wn (tb1 (List.mem_of_getElem? (i := 157) (by decide +kernel))) rfl) rfl rfl (Nat.le_of_ble_eq_true rfl) (show 2 ≤ d by omega) (show _ ≤ 60 * d by omega) (Nat.le_of_ble_eq_true rfl) (Nat.le_of_ble_eq_true rfl) dX1_init_9 (fun r2 => ?_)
  refine K_eq (ws' := ((b, .inr (1, [.null, .null, .null, .null, .null, .null, .null, .null, .int 0, .int 0])) :: (q1, .inr (4, [.int 0, .int 0, .int 0, .int 0, .int 0, .int 0, .int 0, .int 0, .int 0])) :: [])) rfl ?_
  refine K_putF (ref := RX1) (ty := (.object "SamovarOpinions$Remark")) (k := 2) (q0 := 0) C tyX1 rfl rfl hinX1 tyX1_ok nmX1 (by decide) rfl rfl (by decide +kernel) rfl rfl rfl rfl (Nat.le_of_ble_eq_true rfl) (wu (tb1 (List.mem_of_getElem? (i := 200) (by decide +kernel))) rfl) dX1_init_12 ?_
  refine K_eq (ws' := ((b, .inr (1, [.null, .null, .ref q1, .null, .null, .null, .null, .null, .int 0, .int 0])) :: (q1, .inr (4, [.int 0, .int 0, .int 0, .int 0, .int 0, .int 0, .int 0, .int 0, .int 0])) :: [])) rfl ?_
  refine K_aload_n C 0 dX1_init_15 rfl rfl ?_
  refine K_iconst C (w := 5) dX1_init_16 (by decide) ?_
  refine K_newI (N := 5) C qa_I (by decide) (by decide) (by decide) (Nat.le_of_ble_eq_true rfl) (Nat.le_of_ble_eq_true rfl) dX1_init_17 (fun q3 => ?_)
  refine K_eq (ws' := ((b, .inr (1, [.null, .null, .ref q1, .null, .null, .null, .null, .null, .int 0, .int 0])) :: (q1, .inr (4, [.int 0, .int 0, .int 0, .int 0, .int 0, .int 0, .int 0, .int 0, .int 0])) :: (q3, .inl (G.2.2.1 0, 5, .inl (fun _ => 0))) :: [])) rfl ?_
  refine K_putF (ref := RX1) (ty := (.array .int)) (k := 3) (q0 := 0) C tyX1 rfl rfl hinX1 tyX1_ok nmX1 (by decide) rfl rfl (by decide +kernel) rfl rfl rfl rfl (Nat.le_of_ble_eq_true rfl) (wu (tb1 (List.mem_of_getElem? (i := 201) (by decide +kernel))) rfl) dX1_init_19 ?_
  refine K_eq (ws' := ((b, .inr (1, [.null, .null, .ref q1, .ref q3, .null, .null, .null, .null, .int 0, .int 0])) :: (q1, .inr (4, [.int 0, .int 0, .int 0, .int 0, .int 0, .int 0, .int 0, .int 0, .int 0])) :: (q3, .inl (G.2.2.1 0, 5, .inl (fun _ => 0))) :: [])) rfl ?_
  refine K_aload_n C 0 dX1_init_22 rfl rfl ?_
  refine K_iconst C (w := 5) dX1_init_23 (by decide) ?_
  refine K_newI (N := 5) C qa_I (by decide) (by decide) (by decide) (Nat.le_of_ble_eq_true rfl) (Nat.le_of_ble_eq_true rfl) dX1_init_24 (fun q4 => ?_)
  refine K_eq (ws' := ((b, .inr (1, [.null, .null, .ref q1, .ref q3, .null, .null, .null, .null, .int 0, .int 0])) :: (q1, .inr (4, [.int 0, .int 0, .int 0, .int 0, .int 0, .int 0, .int 0, .int 0, .int 0])) :: (q3, .inl (G.2.2.1 0, 5, .inl (fun _ => 0))) :: (q4, .inl (G.2.2.1 0, 5, .inl (fun _ => 0))) :: [])) rfl ?_
  refine K_putF (ref := RX1) (ty := (.array .int)) (k := 4) (q0 := 0) C tyX1 rfl rfl hinX1 tyX1_ok nmX1 (by decide) rfl rfl (by decide +kernel) rfl rfl rfl rfl (Nat.le_of_ble_eq_true rfl) (wu (tb1 (List.mem_of_getElem? (i := 202) (by decide +kernel))) rfl) dX1_init_26 ?_
  refine K_eq (ws' := ((b, .inr (1, [.null, .null, .ref q1, .ref q3, .ref q4, .null, .null, .null, .int 0, .int 0])) :: (q1, .inr (4, [.int 0, .int 0, .int 0, .int 0, .int 0, .int 0, .int 0, .int 0, .int 0])) :: (q3, .inl (G.2.2.1 0, 5, .inl (fun _ => 0))) :: (q4, .inl (G.2.2.1 0, 5, .inl (fun _ => 0))) :: [])) rfl ?_
  refine K_aload_n C 0 dX1_init_29 rfl rfl ?_
  refine K_iconst C (w := 5) dX1_init_30 (by decide) ?_
  refine K_newI (N := 5) C qa_I (by decide) (by decide) (by decide) (Nat.le_of_ble_eq_true rfl) (Nat.le_of_ble_eq_true rfl) dX1_init_31 (fun q5 => ?_)
  refine K_eq (ws' := ((b, .inr (1, [.null, .null, .ref q1, .ref q3, .ref q4, .null, .null, .null, .int 0, .int 0])) :: (q1, .inr (4, [.int 0, .int 0, .int 0, .int 0, .int 0, .int 0, .int 0, .int 0, .int 0])) :: (q3, .inl (G.2.2.1 0, 5, .inl (fun _ => 0))) :: (q4, .inl (G.2.2.1 0, 5, .inl (fun _ => 0))) :: (q5, .inl (G.2.2.1 0, 5, .inl (fun _ => 0))) :: [])) rfl ?_
  refine K_putF (ref := RX1) (ty := (.array .int)) (k := 5) (q0 := 0) C tyX1 rfl rfl hinX1 tyX1_ok nmX1 (by decide) rfl rfl (by decide +kernel) rfl rfl rfl rfl (Nat.le_of_ble_eq_true rfl) (wu (tb1 (List.mem_of_getElem? (i := 203) (by decide +kernel))) rfl) dX1_init_33 ?_
  refine K_eq (ws' := ((b, .inr (1, [.null, .null, .ref q1, .ref q3, .ref q4, .ref q5, .null, .null, .int 0, .int 0])) :: (q1, .inr (4, [.int 0, .int 0, .int 0, .int 0, .int 0, .int 0, .int 0, .int 0, .int 0])) :: (q3, .inl (G.2.2.1 0, 5, .inl (fun _ => 0))) :: (q4, .inl (G.2.2.1 0, 5, .inl (fun _ => 0))) :: (q5, .inl (G.2.2.1 0, 5, .inl (fun _ => 0))) :: [])) rfl ?_
  refine K_aload_n C 0 dX1_init_36 rfl rfl ?_
  refine K_iconst C (w := 5) dX1_init_37 (by decide) ?_
  refine K_newZ (N := 5) C qa_Z (by decide) (by decide) (by decide) (Nat.le_of_ble_eq_true rfl) (Nat.le_of_ble_eq_true rfl) dX1_init_38 (fun q6 => ?_)
  refine K_eq (ws' := ((b, .inr (1, [.null, .null, .ref q1, .ref q3, .ref q4, .ref q5, .null, .null, .int 0, .int 0])) :: (q1, .inr (4, [.int 0, .int 0, .int 0, .int 0, .int 0, .int 0, .int 0, .int 0, .int 0])) :: (q3, .inl (G.2.2.1 0, 5, .inl (fun _ => 0))) :: (q4, .inl (G.2.2.1 0, 5, .inl (fun _ => 0))) :: (q5, .inl (G.2.2.1 0, 5, .inl (fun _ => 0))) :: (q6, .inl (G.2.2.1 1, 5, .inl (fun _ => 0))) :: [])) rfl ?_
  refine K_putF (ref := RX1) (ty := (.array .boolean)) (k := 6) (q0 := 0) C tyX1 rfl rfl hinX1 tyX1_ok nmX1 (by decide) rfl rfl (by decide +kernel) rfl rfl rfl rfl (Nat.le_of_ble_eq_true rfl) (wu (tb1 (List.mem_of_getElem? (i := 204) (by decide +kernel))) rfl) dX1_init_40 ?_
  refine K_eq (ws' := ((b, .inr (1, [.null, .null, .ref q1, .ref q3, .ref q4, .ref q5, .ref q6, .null, .int 0, .int 0])) :: (q1, .inr (4, [.int 0, .int 0, .int 0, .int 0, .int 0, .int 0, .int 0, .int 0, .int 0])) :: (q3, .inl (G.2.2.1 0, 5, .inl (fun _ => 0))) :: (q4, .inl (G.2.2.1 0, 5, .inl (fun _ => 0))) :: (q5, .inl (G.2.2.1 0, 5, .inl (fun _ => 0))) :: (q6, .inl (G.2.2.1 1, 5, .inl (fun _ => 0))) :: [])) rfl ?_
  refine K_aload_n C 0 dX1_init_43 rfl rfl ?_
  refine K_iconst C (w := 5) dX1_init_44 (by decide) ?_
  refine K_newZ (N := 5) C qa_Z (by decide) (by decide) (by decide) (Nat.le_of_ble_eq_true rfl) (Nat.le_of_ble_eq_true rfl) dX1_init_45 (fun q7 => ?_)
  refine K_eq (ws' := ((b, .inr (1, [.null, .null, .ref q1, .ref q3, .ref q4, .ref q5, .ref q6, .null, .int 0, .int 0])) :: (q1, .inr (4, [.int 0, .int 0, .int 0, .int 0, .int 0, .int 0, .int 0, .int 0, .int 0])) :: (q3, .inl (G.2.2.1 0, 5, .inl (fun _ => 0))) :: (q4, .inl (G.2.2.1 0, 5, .inl (fun _ => 0))) :: (q5, .inl (G.2.2.1 0, 5, .inl (fun _ => 0))) :: (q6, .inl (G.2.2.1 1, 5, .inl (fun _ => 0))) :: (q7, .inl (G.2.2.1 1, 5, .inl (fun _ => 0))) :: [])) rfl ?_
  refine K_putF (ref := RX1) (ty := (.array .boolean)) (k := 7) (q0 := 0) C tyX1 rfl rfl hinX1 tyX1_ok nmX1 (by decide) rfl rfl (by decide +kernel) rfl rfl rfl rfl (Nat.le_of_ble_eq_true rfl) (wu (tb1 (List.mem_of_getElem? (i := 205) (by decide +kernel))) rfl) dX1_init_47 ?_
  refine K_eq (ws' := ((b, .inr (1, [.null, .null, .ref q1, .ref q3, .ref q4, .ref q5, .ref q6, .ref q7, .int 0, .int 0])) :: (q1, .inr (4, [.int 0, .int 0, .int 0, .int 0, .int 0, .int 0, .int 0, .int 0, .int 0])) :: (q3, .inl (G.2.2.1 0, 5, .inl (fun _ => 0))) :: (q4, .inl (G.2.2.1 0, 5, .inl (fun _ => 0))) :: (q5, .inl (G.2.2.1 0, 5, .inl (fun _ => 0))) :: (q6, .inl (G.2.2.1 1, 5, .inl (fun _ => 0))) :: (q7, .inl (G.2.2.1 1, 5, .inl (fun _ => 0))) :: [])) rfl ?_
  refine K_aload_n C 0 dX1_init_50 rfl rfl ?_
  refine K_iconst C (w := 0) dX1_init_51 (by decide) ?_
  refine K_put (ref := RX1) (ty := .int) (k := 8) (q0 := 0) C tyX1 rfl rfl hinX1 tyX1_ok nmX1 (by decide) rfl rfl rfl rfl rfl (Nat.le_of_ble_eq_true rfl) (wu (tb1 (List.mem_of_getElem? (i := 206) (by decide +kernel))) rfl) dX1_init_52 ?_
  refine K_eq (ws' := ((b, .inr (1, [.null, .null, .ref q1, .ref q3, .ref q4, .ref q5, .ref q6, .ref q7, .int 0, .int 0])) :: (q1, .inr (4, [.int 0, .int 0, .int 0, .int 0, .int 0, .int 0, .int 0, .int 0, .int 0])) :: (q3, .inl (G.2.2.1 0, 5, .inl (fun _ => 0))) :: (q4, .inl (G.2.2.1 0, 5, .inl (fun _ => 0))) :: (q5, .inl (G.2.2.1 0, 5, .inl (fun _ => 0))) :: (q6, .inl (G.2.2.1 1, 5, .inl (fun _ => 0))) :: (q7, .inl (G.2.2.1 1, 5, .inl (fun _ => 0))) :: [])) rfl ?_
  refine K_aload_n C 0 dX1_init_55 rfl rfl ?_
  refine K_iconst C (w := 0) dX1_init_56 (by decide) ?_
  refine K_put (ref := RX1) (ty := .int) (k := 9) (q0 := 0) C tyX1 rfl rfl hinX1 tyX1_ok nmX1 (by decide) rfl rfl rfl rfl rfl (Nat.le_of_ble_eq_true rfl) (wu (tb1 (List.mem_of_getElem? (i := 207) (by decide +kernel))) rfl) dX1_init_57 ?_
  refine K_eq (ws' := ((b, .inr (1, [.null, .null, .ref q1, .ref q3, .ref q4, .ref q5, .ref q6, .ref q7, .int 0, .int 0])) :: (q1, .inr (4, [.int 0, .int 0, .int 0, .int 0, .int 0, .int 0, .int 0, .int 0, .int 0])) :: (q3, .inl (G.2.2.1 0, 5, .inl (fun _ => 0))) :: (q4, .inl (G.2.2.1 0, 5, .inl (fun _ => 0))) :: (q5, .inl (G.2.2.1 0, 5, .inl (fun _ => 0))) :: (q6, .inl (G.2.2.1 1, 5, .inl (fun _ => 0))) :: (q7, .inl (G.2.2.1 1, 5, .inl (fun _ => 0))) :: [])) rfl ?_
  refine K_aload_n C 0 dX1_init_60 rfl rfl ?_
  refine K_aload_n C 1 dX1_init_61 rfl rfl ?_
  refine K_putF (ref := RX1) (ty := (.object "SamovarOpinions$Samovar")) (k := 0) (q0 := 0) C tyX1 rfl rfl hinX1 tyX1_ok nmX1 (by decide) rfl rfl (by decide +kernel) rfl rfl rfl rfl (Nat.le_of_ble_eq_true rfl) (wu (tb1 (List.mem_of_getElem? (i := 198) (by decide +kernel))) rfl) dX1_init_62 ?_
  refine K_eq (ws' := ((b, .inr (1, [.ref a1, .null, .ref q1, .ref q3, .ref q4, .ref q5, .ref q6, .ref q7, .int 0, .int 0])) :: (q1, .inr (4, [.int 0, .int 0, .int 0, .int 0, .int 0, .int 0, .int 0, .int 0, .int 0])) :: (q3, .inl (G.2.2.1 0, 5, .inl (fun _ => 0))) :: (q4, .inl (G.2.2.1 0, 5, .inl (fun _ => 0))) :: (q5, .inl (G.2.2.1 0, 5, .inl (fun _ => 0))) :: (q6, .inl (G.2.2.1 1, 5, .inl (fun _ => 0))) :: (q7, .inl (G.2.2.1 1, 5, .inl (fun _ => 0))) :: [])) rfl ?_
  refine K_aload_n C 0 dX1_init_65 rfl rfl ?_
  refine K_aload_n C 2 dX1_init_66 rfl rfl ?_
  refine K_putF (ref := RX1) (ty := (.object "SamovarOpinions$Texts")) (k := 1) (q0 := 0) C tyX1 rfl rfl hinX1 tyX1_ok nmX1 (by decide) rfl rfl (by decide +kernel) rfl rfl rfl rfl (Nat.le_of_ble_eq_true rfl) (wu (tb1 (List.mem_of_getElem? (i := 199) (by decide +kernel))) rfl) dX1_init_67 ?_
  refine K_eq (ws' := ((b, .inr (1, [.ref a1, .ref a2, .ref q1, .ref q3, .ref q4, .ref q5, .ref q6, .ref q7, .int 0, .int 0])) :: (q1, .inr (4, [.int 0, .int 0, .int 0, .int 0, .int 0, .int 0, .int 0, .int 0, .int 0])) :: (q3, .inl (G.2.2.1 0, 5, .inl (fun _ => 0))) :: (q4, .inl (G.2.2.1 0, 5, .inl (fun _ => 0))) :: (q5, .inl (G.2.2.1 0, 5, .inl (fun _ => 0))) :: (q6, .inl (G.2.2.1 1, 5, .inl (fun _ => 0))) :: (q7, .inl (G.2.2.1 1, 5, .inl (fun _ => 0))) :: [])) rfl ?_
  exact K_ret C (fun i => ([q1, q3, q4, q5, q6, q7] : List Nat).getD i 0) rfl (Nat.le_refl _) (Nat.le_refl _) dX1_init_70
theorem mw_X0_init : MW yX0_init cX0_init 3 none 2 ∧ Cond.instanceMethod yX0_init ∈ wsL_law := ⟨⟨wu (tb1 (List.mem_of_getElem? (i := 234) (by decide +kernel))) rfl, wu (tb1 (List.mem_of_getElem? (i := 8) (by decide +kernel))) rfl, ⟨by decide +kernel, by decide +kernel, by decide +kernel⟩, by decide⟩, wu (tb1 (List.mem_of_getElem? (i := 233) (by decide +kernel))) rfl⟩
set_option maxRecDepth 100000 in
set_option maxHeartbeats 4000000 in
theorem c0_init (a1 : Nat) (a2 : Nat) : Kt 1 yX0_init cX0_init 3 0 0 (.inr (0, [.null, .null, .int 0, .int 0, .int 0, .int 0, .int 0])) [.ref a1, .ref a2] (fun (G : Gx) (b : Nat) (r : Nat → Nat) => ([(b, .inr (0, [.ref a1, .ref a2, .int 0, .int 0, .int (-1), .int (-1), .int (-1)]))] : va_W)) := by
  refine Kt.of mw_X0_init.1 (by decide +kernel) rfl (fun b => Nat.le_of_ble_eq_true rfl) (fun G p l e d b s m args below meth c hd C => ?_)
  have hao := C.2.2.2.2.2.2.2.2.2.2.2.1
  have haoa := C.2.2.2.2.2.2.2.2.2.2.2.2
  refine (?_ : Kw G p l e (RmK d 0 0) s m args below meth c 3 (AK b s.heap.size) 0 0 _ [(b, .inr (0, [.null, .null, .int 0, .int 0, .int 0, .int 0, .int 0]))] 0 [(0, .ref b), (1, .ref a1), (2, .ref a2)] [])
  refine K_aload_n C 0 dX0_init_0 rfl rfl ?_
  refine K_obj C (wu (tb1 (List.mem_of_getElem? (i := 235) (by decide +kernel))) rfl) qo_i qo_c (Nat.le_of_ble_eq_true rfl) (show 1 ≤ d by omega) (show _ ≤ 60 * d by omega) dX0_init_1 ?_
  refine K_aload_n C 0 dX0_init_4 rfl rfl ?_
  refine K_iconst C (w := 0) dX0_init_5 (by decide) ?_
  refine K_put (ref := RX0) (ty := .int) (k := 2) (q0 := 0) C tyX0 rfl rfl hinX0 tyX0_ok nmX0 (by decide) rfl rfl rfl rfl rfl (Nat.le_of_ble_eq_true rfl) (wu (tb1 (List.mem_of_getElem? (i := 238) (by decide +kernel))) rfl) dX0_init_6 ?_
  refine K_eq (ws' := ((b, .inr (0, [.null, .null, .int 0, .int 0, .int 0, .int 0, .int 0])) :: [])) rfl ?_
  refine K_aload_n C 0 dX0_init_9 rfl rfl ?_
  refine K_iconst C (w := 0) dX0_init_10 (by decide) ?_
  refine K_put (ref := RX0) (ty := .int) (k := 3) (q0 := 0) C tyX0 rfl rfl hinX0 tyX0_ok nmX0 (by decide) rfl rfl rfl rfl rfl (Nat.le_of_ble_eq_true rfl) (wu (tb2 (List.mem_of_getElem? (i := 0) (by decide +kernel))) rfl) dX0_init_11 ?_
  refine K_eq (ws' := ((b, .inr (0, [.null, .null, .int 0, .int 0, .int 0, .int 0, .int 0])) :: [])) rfl ?_
  refine K_aload_n C 0 dX0_init_14 rfl rfl ?_
  refine K_iconst C (w := (-1)) dX0_init_15 (by decide) ?_
  refine K_put (ref := RX0) (ty := .int) (k := 4) (q0 := 0) C tyX0 rfl rfl hinX0 tyX0_ok nmX0 (by decide) rfl rfl rfl rfl rfl (Nat.le_of_ble_eq_true rfl) (wu (tb2 (List.mem_of_getElem? (i := 2) (by decide +kernel))) rfl) dX0_init_16 ?_
  refine K_eq (ws' := ((b, .inr (0, [.null, .null, .int 0, .int 0, .int (-1), .int 0, .int 0])) :: [])) rfl ?_
  refine K_aload_n C 0 dX0_init_19 rfl rfl ?_
  refine K_iconst C (w := (-1)) dX0_init_20 (by decide) ?_
  refine K_put (ref := RX0) (ty := .int) (k := 5) (q0 := 0) C tyX0 rfl rfl hinX0 tyX0_ok nmX0 (by decide) rfl rfl rfl rfl rfl (Nat.le_of_ble_eq_true rfl) (wu (tb2 (List.mem_of_getElem? (i := 4) (by decide +kernel))) rfl) dX0_init_21 ?_
  refine K_eq (ws' := ((b, .inr (0, [.null, .null, .int 0, .int 0, .int (-1), .int (-1), .int 0])) :: [])) rfl ?_
  refine K_aload_n C 0 dX0_init_24 rfl rfl ?_
  refine K_iconst C (w := (-1)) dX0_init_25 (by decide) ?_
  refine K_put (ref := RX0) (ty := .int) (k := 6) (q0 := 0) C tyX0 rfl rfl hinX0 tyX0_ok nmX0 (by decide) rfl rfl rfl rfl rfl (Nat.le_of_ble_eq_true rfl) (wu (tb2 (List.mem_of_getElem? (i := 6) (by decide +kernel))) rfl) dX0_init_26 ?_
  refine K_eq (ws' := ((b, .inr (0, [.null, .null, .int 0, .int 0, .int (-1), .int (-1), .int (-1)])) :: [])) rfl ?_
  refine K_aload_n C 0 dX0_init_29 rfl rfl ?_
  refine K_aload_n C 1 dX0_init_30 rfl rfl ?_
  refine K_putF (ref := RX0) (ty := (.object "SamovarOpinions$Samovar")) (k := 0) (q0 := 0) C tyX0 rfl rfl hinX0 tyX0_ok nmX0 (by decide) rfl rfl (by decide +kernel) rfl rfl rfl rfl (Nat.le_of_ble_eq_true rfl) (wu (tb1 (List.mem_of_getElem? (i := 236) (by decide +kernel))) rfl) dX0_init_31 ?_
  refine K_eq (ws' := ((b, .inr (0, [.ref a1, .null, .int 0, .int 0, .int (-1), .int (-1), .int (-1)])) :: [])) rfl ?_
  refine K_aload_n C 0 dX0_init_34 rfl rfl ?_
  refine K_aload_n C 2 dX0_init_35 rfl rfl ?_
  refine K_putF (ref := RX0) (ty := (.object "SamovarOpinions$Evening")) (k := 1) (q0 := 0) C tyX0 rfl rfl hinX0 tyX0_ok nmX0 (by decide) rfl rfl (by decide +kernel) rfl rfl rfl rfl (Nat.le_of_ble_eq_true rfl) (wu (tb1 (List.mem_of_getElem? (i := 237) (by decide +kernel))) rfl) dX0_init_36 ?_
  refine K_eq (ws' := ((b, .inr (0, [.ref a1, .ref a2, .int 0, .int 0, .int (-1), .int (-1), .int (-1)])) :: [])) rfl ?_
  exact K_ret C (fun i => ([] : List Nat).getD i 0) rfl (Nat.le_refl _) (Nat.le_refl _) dX0_init_39
theorem mw_X3_init : MW yX3_init cX3_init 3 none 2 ∧ Cond.instanceMethod yX3_init ∈ wsL_law := ⟨⟨wu (tb2 (List.mem_of_getElem? (i := 27) (by decide +kernel))) rfl, wu (tb1 (List.mem_of_getElem? (i := 9) (by decide +kernel))) rfl, ⟨by decide +kernel, by decide +kernel, by decide +kernel⟩, by decide⟩, wu (tb2 (List.mem_of_getElem? (i := 26) (by decide +kernel))) rfl⟩
set_option maxRecDepth 100000 in
set_option maxHeartbeats 4000000 in
theorem c3_init (a1 : Nat) (a2 : Nat) : Kt 1 yX3_init cX3_init 3 2 10 (.inr (3, [.null, .null, .null, .null, .int 0, .int 0, .int 0])) [.ref a1, .ref a2] (fun (G : Gx) (b : Nat) (r : Nat → Nat) => ([(b, .inr (3, [.ref a1, .ref a2, .ref (r 0), .ref (r 1), .int 0, .int 0, .int 0])), ((r 0), .inl (G.2.2.1 0, 5, .inl (fun _ => 0))), ((r 1), .inl (G.2.2.1 0, 5, .inl (fun _ => 0)))] : va_W)) := by
  refine Kt.of mw_X3_init.1 (by decide +kernel) rfl (fun b => Nat.le_of_ble_eq_true rfl) (fun G p l e d b s m args below meth c hd C => ?_)
  have hao := C.2.2.2.2.2.2.2.2.2.2.2.1
  have haoa := C.2.2.2.2.2.2.2.2.2.2.2.2
  refine (?_ : Kw G p l e (RmK d 2 10) s m args below meth c 3 (AK b s.heap.size) 0 0 _ [(b, .inr (3, [.null, .null, .null, .null, .int 0, .int 0, .int 0]))] 0 [(0, .ref b), (1, .ref a1), (2, .ref a2)] [])
  refine K_aload_n C 0 dX3_init_0 rfl rfl ?_
  refine K_obj C (wu (tb2 (List.mem_of_getElem? (i := 28) (by decide +kernel))) rfl) qo_i qo_c (Nat.le_of_ble_eq_true rfl) (show 1 ≤ d by omega) (show _ ≤ 60 * d by omega) dX3_init_1 ?_
  refine K_aload_n C 0 dX3_init_4 rfl rfl ?_
  refine K_iconst C (w := 5) dX3_init_5 (by decide) ?_
  refine K_newI (N := 5) C qa_I (by decide) (by decide) (by decide) (Nat.le_of_ble_eq_true rfl) (Nat.le_of_ble_eq_true rfl) dX3_init_6 (fun q1 => ?_)
  refine K_eq (ws' := ((b, .inr (3, [.null, .null, .null, .null, .int 0, .int 0, .int 0])) :: (q1, .inl (G.2.2.1 0, 5, .inl (fun _ => 0))) :: [])) rfl ?_
  refine K_putF (ref := RX3) (ty := (.array .int)) (k := 2) (q0 := 0) C tyX3 rfl rfl hinX3 tyX3_ok nmX3 (by decide) rfl rfl (by decide +kernel) rfl rfl rfl rfl (Nat.le_of_ble_eq_true rfl) (wu (tb2 (List.mem_of_getElem? (i := 31) (by decide +kernel))) rfl) dX3_init_8 ?_
  refine K_eq (ws' := ((b, .inr (3, [.null, .null, .ref q1, .null, .int 0, .int 0, .int 0])) :: (q1, .inl (G.2.2.1 0, 5, .inl (fun _ => 0))) :: [])) rfl ?_
  refine K_aload_n C 0 dX3_init_11 rfl rfl ?_
  refine K_iconst C (w := 5) dX3_init_12 (by decide) ?_
  refine K_newI (N := 5) C qa_I (by decide) (by decide) (by decide) (Nat.le_of_ble_eq_true rfl) (Nat.le_of_ble_eq_true rfl) dX3_init_13 (fun q2 => ?_)
  refine K_eq (ws' := ((b, .inr (3, [.null, .null, .ref q1, .null, .int 0, .int 0, .int 0])) :: (q1, .inl (G.2.2.1 0, 5, .inl (fun _ => 0))) :: (q2, .inl (G.2.2.1 0, 5, .inl (fun _ => 0))) :: [])) rfl ?_
  refine K_putF (ref := RX3) (ty := (.array .int)) (k := 3) (q0 := 0) C tyX3 rfl rfl hinX3 tyX3_ok nmX3 (by decide) rfl rfl (by decide +kernel) rfl rfl rfl rfl (Nat.le_of_ble_eq_true rfl) (wu (tb2 (List.mem_of_getElem? (i := 32) (by decide +kernel))) rfl) dX3_init_15 ?_
  refine K_eq (ws' := ((b, .inr (3, [.null, .null, .ref q1, .ref q2, .int 0, .int 0, .int 0])) :: (q1, .inl (G.2.2.1 0, 5, .inl (fun _ => 0))) :: (q2, .inl (G.2.2.1 0, 5, .inl (fun _ => 0))) :: [])) rfl ?_
  refine K_aload_n C 0 dX3_init_18 rfl rfl ?_
  refine K_iconst C (w := 0) dX3_init_19 (by decide) ?_
  refine K_put (ref := RX3) (ty := .int) (k := 4) (q0 := 0) C tyX3 rfl rfl hinX3 tyX3_ok nmX3 (by decide) rfl rfl rfl rfl rfl (Nat.le_of_ble_eq_true rfl) (wu (tb2 (List.mem_of_getElem? (i := 33) (by decide +kernel))) rfl) dX3_init_20 ?_
  refine K_eq (ws' := ((b, .inr (3, [.null, .null, .ref q1, .ref q2, .int 0, .int 0, .int 0])) :: (q1, .inl (G.2.2.1 0, 5, .inl (fun _ => 0))) :: (q2, .inl (G.2.2.1 0, 5, .inl (fun _ => 0))) :: [])) rfl ?_
  refine K_aload_n C 0 dX3_init_23 rfl rfl ?_
  refine K_iconst C (w := 0) dX3_init_24 (by decide) ?_
  refine K_put (ref := RX3) (ty := .int) (k := 5) (q0 := 0) C tyX3 rfl rfl hinX3 tyX3_ok nmX3 (by decide) rfl rfl rfl rfl rfl (Nat.le_of_ble_eq_true rfl) (wu (tb2 (List.mem_of_getElem? (i := 35) (by decide +kernel))) rfl) dX3_init_25 ?_
  refine K_eq (ws' := ((b, .inr (3, [.null, .null, .ref q1, .ref q2, .int 0, .int 0, .int 0])) :: (q1, .inl (G.2.2.1 0, 5, .inl (fun _ => 0))) :: (q2, .inl (G.2.2.1 0, 5, .inl (fun _ => 0))) :: [])) rfl ?_
  refine K_aload_n C 0 dX3_init_28 rfl rfl ?_
  refine K_iconst C (w := 0) dX3_init_29 (by decide) ?_
  refine K_put (ref := RX3) (ty := .int) (k := 6) (q0 := 0) C tyX3 rfl rfl hinX3 tyX3_ok nmX3 (by decide) rfl rfl rfl rfl rfl (Nat.le_of_ble_eq_true rfl) (wu (tb2 (List.mem_of_getElem? (i := 37) (by decide +kernel))) rfl) dX3_init_30 ?_
  refine K_eq (ws' := ((b, .inr (3, [.null, .null, .ref q1, .ref q2, .int 0, .int 0, .int 0])) :: (q1, .inl (G.2.2.1 0, 5, .inl (fun _ => 0))) :: (q2, .inl (G.2.2.1 0, 5, .inl (fun _ => 0))) :: [])) rfl ?_
  refine K_aload_n C 0 dX3_init_33 rfl rfl ?_
  refine K_aload_n C 1 dX3_init_34 rfl rfl ?_
  refine K_putF (ref := RX3) (ty := (.object "SamovarOpinions$Samovar")) (k := 0) (q0 := 0) C tyX3 rfl rfl hinX3 tyX3_ok nmX3 (by decide) rfl rfl (by decide +kernel) rfl rfl rfl rfl (Nat.le_of_ble_eq_true rfl) (wu (tb2 (List.mem_of_getElem? (i := 29) (by decide +kernel))) rfl) dX3_init_35 ?_
  refine K_eq (ws' := ((b, .inr (3, [.ref a1, .null, .ref q1, .ref q2, .int 0, .int 0, .int 0])) :: (q1, .inl (G.2.2.1 0, 5, .inl (fun _ => 0))) :: (q2, .inl (G.2.2.1 0, 5, .inl (fun _ => 0))) :: [])) rfl ?_
  refine K_aload_n C 0 dX3_init_38 rfl rfl ?_
  refine K_aload_n C 2 dX3_init_39 rfl rfl ?_
  refine K_putF (ref := RX3) (ty := (.object "SamovarOpinions$Evening")) (k := 1) (q0 := 0) C tyX3 rfl rfl hinX3 tyX3_ok nmX3 (by decide) rfl rfl (by decide +kernel) rfl rfl rfl rfl (Nat.le_of_ble_eq_true rfl) (wu (tb2 (List.mem_of_getElem? (i := 30) (by decide +kernel))) rfl) dX3_init_40 ?_
  refine K_eq (ws' := ((b, .inr (3, [.ref a1, .ref a2, .ref q1, .ref q2, .int 0, .int 0, .int 0])) :: (q1, .inl (G.2.2.1 0, 5, .inl (fun _ => 0))) :: (q2, .inl (G.2.2.1 0, 5, .inl (fun _ => 0))) :: [])) rfl ?_
  exact K_ret C (fun i => ([q1, q2] : List Nat).getD i 0) rfl (Nat.le_refl _) (Nat.le_refl _) dX3_init_43
