theorem mw_J0_length_8abf5 : MW yJ0_length_8abf5 cJ0_length_8abf5 1 (some .int) 0 ∧ Cond.instanceMethod yJ0_length_8abf5 ∈ wsL_law ∧ Cond.selects (yJ0_length_8abf5).cls yJ0_length_8abf5 yJ0_length_8abf5 ∈ wsL_law := ⟨⟨wu (tb2 (List.mem_of_getElem? (i := 77) (by decide +kernel))) rfl, wu (tb1 (List.mem_of_getElem? (i := 11) (by decide +kernel))) rfl, ⟨by decide +kernel, by decide +kernel, by decide +kernel⟩, by decide⟩, wu (tb2 (List.mem_of_getElem? (i := 75) (by decide +kernel))) rfl, wu (tb2 (List.mem_of_getElem? (i := 76) (by decide +kernel))) rfl⟩
theorem mw_J0_coder_7d493 : MW yJ0_coder_7d493 cJ0_coder_7d493 1 (some .byte) 0 ∧ Cond.instanceMethod yJ0_coder_7d493 ∈ wsL_law ∧ Cond.selects (yJ0_coder_7d493).cls yJ0_coder_7d493 yJ0_coder_7d493 ∈ wsL_law := ⟨⟨wu (tb2 (List.mem_of_getElem? (i := 81) (by decide +kernel))) rfl, wu (tb1 (List.mem_of_getElem? (i := 11) (by decide +kernel))) rfl, ⟨by decide +kernel, by decide +kernel, by decide +kernel⟩, by decide⟩, wu (tb2 (List.mem_of_getElem? (i := 79) (by decide +kernel))) rfl, wu (tb2 (List.mem_of_getElem? (i := 80) (by decide +kernel))) rfl⟩
theorem mw_J0_charAt_5068e : MW yJ0_charAt_5068e cJ0_charAt_5068e 2 (some .char) 1 ∧ Cond.instanceMethod yJ0_charAt_5068e ∈ wsL_law ∧ Cond.selects (yJ0_charAt_5068e).cls yJ0_charAt_5068e yJ0_charAt_5068e ∈ wsL_law := ⟨⟨wu (tb2 (List.mem_of_getElem? (i := 87) (by decide +kernel))) rfl, wu (tb1 (List.mem_of_getElem? (i := 11) (by decide +kernel))) rfl, ⟨by decide +kernel, by decide +kernel, by decide +kernel⟩, by decide⟩, wu (tb2 (List.mem_of_getElem? (i := 85) (by decide +kernel))) rfl, wu (tb2 (List.mem_of_getElem? (i := 86) (by decide +kernel))) rfl⟩
theorem mw_J0_isLatin1_aae02 : MW yJ0_isLatin1_aae02 cJ0_isLatin1_aae02 1 (some .boolean) 0 ∧ Cond.instanceMethod yJ0_isLatin1_aae02 ∈ wsL_law ∧ Cond.selects (yJ0_isLatin1_aae02).cls yJ0_isLatin1_aae02 yJ0_isLatin1_aae02 ∈ wsL_law := ⟨⟨wu (tb2 (List.mem_of_getElem? (i := 91) (by decide +kernel))) rfl, wu (tb1 (List.mem_of_getElem? (i := 11) (by decide +kernel))) rfl, ⟨by decide +kernel, by decide +kernel, by decide +kernel⟩, by decide⟩, wu (tb2 (List.mem_of_getElem? (i := 89) (by decide +kernel))) rfl, wu (tb2 (List.mem_of_getElem? (i := 90) (by decide +kernel))) rfl⟩
theorem mw_J1_charAt_3b067 : MW yJ1_charAt_3b067 cJ1_charAt_3b067 2 (some .char) 2 ∧ Cond.static yJ1_charAt_3b067 ∈ wsL_law := ⟨⟨wu (tb2 (List.mem_of_getElem? (i := 94) (by decide +kernel))) rfl, wu (tb1 (List.mem_of_getElem? (i := 12) (by decide +kernel))) rfl, ⟨by decide +kernel, by decide +kernel, by decide +kernel⟩, by decide⟩, wu (tb2 (List.mem_of_getElem? (i := 93) (by decide +kernel))) rfl⟩
theorem mw_J0_checkIndex_df160 : MW yJ0_checkIndex_df160 cJ0_checkIndex_df160 2 none 2 ∧ Cond.static yJ0_checkIndex_df160 ∈ wsL_law := ⟨⟨wu (tb2 (List.mem_of_getElem? (i := 97) (by decide +kernel))) rfl, wu (tb1 (List.mem_of_getElem? (i := 11) (by decide +kernel))) rfl, ⟨by decide +kernel, by decide +kernel, by decide +kernel⟩, by decide⟩, wu (tb2 (List.mem_of_getElem? (i := 96) (by decide +kernel))) rfl⟩
theorem mw_J3_checkIndex_8e157 : MW yJ3_checkIndex_8e157 cJ3_checkIndex_8e157 3 (some .int) 3 ∧ Cond.static yJ3_checkIndex_8e157 ∈ wsL_law := ⟨⟨wu (tb2 (List.mem_of_getElem? (i := 102) (by decide +kernel))) rfl, wu (tb1 (List.mem_of_getElem? (i := 13) (by decide +kernel))) rfl, ⟨by decide +kernel, by decide +kernel, by decide +kernel⟩, by decide⟩, wu (tb2 (List.mem_of_getElem? (i := 101) (by decide +kernel))) rfl⟩
theorem qJ335 : Cond.methodLink RJ0 335 yJ0_coder_7d493 ∈ wsL_law := wu (tb2 (List.mem_of_getElem? (i := 78) (by decide +kernel))) rfl
theorem qJ492 : Cond.methodLink RJ0 492 yJ0_isLatin1_aae02 ∈ wsL_law := wu (tb2 (List.mem_of_getElem? (i := 88) (by decide +kernel))) rfl
theorem qJ495 : Cond.methodLink RJ0 495 yJ1_charAt_3b067 ∈ wsL_law := wu (tb2 (List.mem_of_getElem? (i := 92) (by decide +kernel))) rfl
theorem qJ9 : Cond.methodLink RJ1 9 yJ0_checkIndex_df160 ∈ wsL_law := wu (tb2 (List.mem_of_getElem? (i := 95) (by decide +kernel))) rfl
theorem qJ1059 : Cond.methodLink RJ0 1059 yJ3_checkIndex_8e157 ∈ wsL_law := wu (tb2 (List.mem_of_getElem? (i := 100) (by decide +kernel))) rfl
theorem qJf38 : Cond.fieldLink RJ0 38 "java/lang/String" "COMPACT_STRINGS" "Z" ∈ wsL_law := wu (tb2 (List.mem_of_getElem? (i := 82) (by decide +kernel))) rfl
theorem qJf1053 : Cond.fieldLink RJ0 1053 "jdk/internal/util/Preconditions" "SIOOBE_FORMATTER" "Ljava/util/function/BiFunction;" ∈ wsL_law := wu (tb2 (List.mem_of_getElem? (i := 98) (by decide +kernel))) rfl
theorem qJf9 : Cond.fieldLink RJ0 9 "java/lang/String" "value" "[B" ∈ wsL_law := wu (tb6 (List.mem_of_getElem? (i := 115) (by decide +kernel))) rfl
theorem qJf15 : Cond.fieldLink RJ0 15 "java/lang/String" "coder" "B" ∈ wsL_law := wu (tb6 (List.mem_of_getElem? (i := 116) (by decide +kernel))) rfl
section SROWS
variable {sh : Sh} {G : Gx} {p : Program} {l : Launch} {e : Env} {d : Nat} {s : State} {m : MethodId} {args : Array Value} {below : List Frame} {meth : Method} {c : Code} {own : String} {cc : ByteArray} {nL : Nat} {ret : Option FieldType} {A : Nat → Prop} {σ τ : St} {pc : Nat} {lv lv' : List (Nat × Value)} {st : List Value} {R : Room} {cells slots : Nat} {Q : State → Prop}
theorem V_getsC (C : OK sh G p s m args meth c own cc nL ret A) {index : Nat} (hw : Cond.fieldLink own index "java/lang/String" "COMPACT_STRINGS" "Z" ∈ wsL_law) (hdg : decode cc pc = .ok (.getstatic index, 3)) (k9 : Uw sh G p l e d R s m args below meth c nL A cells slots Q σ (pc + 3) lv (.int 1 :: st)) : Uw sh G p l e d R s m args below meth c nL A cells slots Q σ pc lv st := fun hR H locs ls hP hS hl =>
  va_gets C.1 C.2.1 C.2.2.2.2.2.2.2.2.2.1.2.2.2.2.1 hS C.2.2.2.1 (C.2.2.2.2.1 _ hw) (fun _ h => h) hdg (k9 hR H locs ls hP hS hl)
theorem V_getsQ (C : OK sh G p s m args meth c own cc nL ret A) {index : Nat} (hw : Cond.fieldLink own index "jdk/internal/util/Preconditions" "SIOOBE_FORMATTER" "Ljava/util/function/BiFunction;" ∈ wsL_law) (hdg : decode cc pc = .ok (.getstatic index, 3)) (k0 : Uw sh G p l e d R s m args below meth c nL A cells slots Q σ (pc + 3) lv (.null :: st)) (k1 : ∀ t : Nat, Uw sh G p l e d R s m args below meth c nL A cells slots Q σ (pc + 3) lv (.ref t :: st)) : Uw sh G p l e d R s m args below meth c nL A cells slots Q σ pc lv st := fun hR H locs ls hP hS hl => by
  rcases C.2.2.2.2.2.2.2.2.2.1.2.2.2.2.2 with hz | ⟨t, hz⟩
  · exact va_gets C.1 C.2.1 hz hS C.2.2.2.1 (C.2.2.2.2.1 _ hw) (fun _ h => h) hdg (k0 hR H locs ls hP hS hl)
  · exact va_gets C.1 C.2.1 hz hS C.2.2.2.1 (C.2.2.2.2.1 _ hw) (fun _ h => h) hdg (k1 t hR H locs ls hP hS hl)
theorem V_i2c (C : OK sh G p s m args meth c own cc nL ret A) {x w : Int32} (hdg : decode cc pc = .ok (.i2c, 1)) (hv : x.toUInt32.toUInt16.toUInt32.toInt32 = w) (k : Uw sh G p l e d R s m args below meth c nL A cells slots Q σ (pc + 1) lv (.int w :: st)) : Uw sh G p l e d R s m args below meth c nL A cells slots Q σ pc lv (.int x :: st) := fun hR H locs ls hP hS hl => lv_i2c C.1 C.2.1 hdg hv (k hR H locs ls hP hS hl)
theorem V_callVS (C : OK sh G p s m args meth c own cc nL ret A) {h i n maxL index : Nat} {y : MethodName} {bytes : ByteArray} {rt : Option FieldType} {As : List Value} {av : Gx → List Value} {σ1 : St} {vr : Gx → Option Value} {st0 : List Value} (hct : Ct sh h y bytes maxL rt av σ vr σ1) (hmw : MW y bytes maxL rt n) (hin : Cond.instanceMethod y ∈ wsL_law) (hsl : Cond.selects y.cls y y ∈ wsL_law) (hw : Cond.methodLink own index y ∈ wsL_law) (hi : i < 13) (hq : y.cls = "java/lang/String") (hd : h + 1 ≤ d) (hav : av G = .ref (G.2.2.2.2.1 i) :: As) (hn : As.length = n) (hst0 : st0 = As.reverse ++ .ref (G.2.2.2.2.1 i) :: st) (hst : (st.map fun v => v.category).sum ≤ 8) (hdg : decode cc pc = .ok (.invokevirtual index, 3)) (k9 : Uw sh G p l e d R s m args below meth c nL A cells slots Q σ1 (pc + 3) lv ((vr G).toList ++ st)) : Uw sh G p l e d R s m args below meth c nL A cells slots Q σ pc lv st0 := by
  intro hR H locs ls hP hS hl
  obtain ⟨d', rfl⟩ : ∃ d', d = d' + 1 := ⟨d - 1, by omega⟩
  have hM := hct l d' G H.size (by omega)
  rw [hav] at hM
  have hrc := vk_recv C.2.2.2.2.2.2.2.2.2.1.2.1 hi hS
  rw [← hq] at hrc
  refine V_back C hS hl hR (va_runV (C := y.cls) (As := As) (rest := st) (n := n) ⟨C.1, C.2.1, C.2.2.1, C.2.2.2.1, C.2.2.2.2.1⟩ hM ⟨callB_of n C.2.2.2.2.1 hmw.good rfl rfl rfl (C.2.2.2.2.1 _ hmw.2.1) (C.2.2.2.2.1 _ hw) hmw.2.2.1 ⟨?_, ?_⟩, C.2.2.2.2.1 _ hin, C.2.2.2.2.1 _ hsl⟩ ⟨PZ_blind, hrc, fun U hU hW => ⟨rfl, V_pre C hP hS U hU hW⟩⟩ rfl hn hl.1 hst0 (lv_room hst) hdg ⟨hR.2.2.1, hR.2.2.2⟩) k9
  · show d' + 1 ≤ R.frames
    omega
  · have := hmw.2.2.2
    show 8 + (maxL + 11) + 60 * d' ≤ R.locals
    omega
theorem V_callVSi (C : OK sh G p s m args meth c own cc nL ret A) {h i n maxL index : Nat} {y : MethodName} {bytes : ByteArray} {rt : Option FieldType} {As : List Value} {av : Gx → List Value} {σ1 : St} {r : Int32} {st0 : List Value} (hct : Ct sh h y bytes maxL rt av σ (fun _ => some (.int r)) σ1) (hmw : MW y bytes maxL rt n) (hin : Cond.instanceMethod y ∈ wsL_law) (hsl : Cond.selects y.cls y y ∈ wsL_law) (hw : Cond.methodLink own index y ∈ wsL_law) (hi : i < 13) (hq : y.cls = "java/lang/String") (hd : h + 1 ≤ d) (hav : av G = .ref (G.2.2.2.2.1 i) :: As) (hn : As.length = n) (hst0 : st0 = As.reverse ++ .ref (G.2.2.2.2.1 i) :: st) (hst : (st.map fun v => v.category).sum ≤ 8) (hdg : decode cc pc = .ok (.invokevirtual index, 3)) (k9 : Uw sh G p l e d R s m args below meth c nL A cells slots Q σ1 (pc + 3) lv (.int r :: st)) : Uw sh G p l e d R s m args below meth c nL A cells slots Q σ pc lv st0 := V_callVS C hct hmw hin hsl hw hi hq hd hav hn hst0 hst hdg k9
end SROWS
set_option maxRecDepth 100000 in
set_option maxHeartbeats 4000000 in
theorem sc_coder {sh : Sh} {σ : St} {i : Nat} (hi : i < 13) : Ct sh 0 yJ0_coder_7d493 cJ0_coder_7d493 1 (some .byte) (fun G => [.ref (G.2.2.2.2.1 i)]) σ (fun G => some (.int 0)) σ := by
  refine Ct.of mw_J0_coder_7d493.1 (by decide +kernel) (fun G => Nat.le_of_ble_eq_true rfl) (fun G p l e d s m args below meth c A hd C => ?_)
  refine (?_ : Vw sh G p l e d s m args below meth c 1 A σ 0 [(0, .ref (G.2.2.2.2.1 i))] [] (some (.int 0)) σ)
  refine V_getsC C qJf38 dJ0_coder_7d493_0 ?_
  refine V_if_eqF C 13 dJ0_coder_7d493_3 (by decide) (by decide) ?_
  refine V_aload_n C 0 dJ0_coder_7d493_6 rfl rfl ?_
  refine V_sgetC C hi qJf15 dJ0_coder_7d493_7 ?_
  refine V_goto C 14 dJ0_coder_7d493_10 (by decide) ?_
  exact V_iret C rfl rfl dJ0_coder_7d493_14
set_option maxRecDepth 100000 in
set_option maxHeartbeats 4000000 in
theorem sc_latin {sh : Sh} {σ : St} {i : Nat} (hi : i < 13) : Ct sh 0 yJ0_isLatin1_aae02 cJ0_isLatin1_aae02 1 (some .boolean) (fun G => [.ref (G.2.2.2.2.1 i)]) σ (fun G => some (.int 1)) σ := by
  refine Ct.of mw_J0_isLatin1_aae02.1 (by decide +kernel) (fun G => Nat.le_of_ble_eq_true rfl) (fun G p l e d s m args below meth c A hd C => ?_)
  refine (?_ : Vw sh G p l e d s m args below meth c 1 A σ 0 [(0, .ref (G.2.2.2.2.1 i))] [] (some (.int 1)) σ)
  refine V_getsC C qJf38 dJ0_isLatin1_aae02_0 ?_
  refine V_if_eqF C 17 dJ0_isLatin1_aae02_3 (by decide) (by decide) ?_
  refine V_aload_n C 0 dJ0_isLatin1_aae02_6 rfl rfl ?_
  refine V_sgetC C hi qJf15 dJ0_isLatin1_aae02_7 ?_
  refine V_if_neF C 17 dJ0_isLatin1_aae02_10 (by decide) rfl ?_
  refine V_iconst C (w := 1) dJ0_isLatin1_aae02_13 (by decide) ?_
  refine V_goto C 18 dJ0_isLatin1_aae02_14 (by decide) ?_
  exact V_iret C rfl rfl dJ0_isLatin1_aae02_18
set_option maxRecDepth 100000 in
set_option maxHeartbeats 4000000 in
theorem sc_len {sh : Sh} {σ : St} {i : Nat} (hi : i < 13) : Ct sh 1 yJ0_length_8abf5 cJ0_length_8abf5 1 (some .int) (fun G => [.ref (G.2.2.2.2.1 i)]) σ (fun G => some (.int (Int32.ofNat (strL.getD i 0)))) σ := by
  refine Ct.of mw_J0_length_8abf5.1 (by decide +kernel) (fun G => Nat.le_of_ble_eq_true rfl) (fun G p l e d s m args below meth c A hd C => ?_)
  refine (?_ : Vw sh G p l e d s m args below meth c 1 A σ 0 [(0, .ref (G.2.2.2.2.1 i))] [] (some (.int (Int32.ofNat (strL.getD i 0)))) σ)
  refine V_aload_n C 0 dJ0_length_8abf5_0 rfl rfl ?_
  refine V_sgetV C hi qJf9 dJ0_length_8abf5_1 ?_
  refine V_sbl C hi rfl dJ0_length_8abf5_4 ?_
  refine V_aload_n C 0 dJ0_length_8abf5_5 rfl rfl ?_
  refine V_callVSi (As := []) C (sc_coder hi) mw_J0_coder_7d493.1 mw_J0_coder_7d493.2.1 mw_J0_coder_7d493.2.2 qJ335 hi rfl (by omega) rfl rfl rfl (Nat.le_of_ble_eq_true rfl) dJ0_length_8abf5_6 ?_
  refine V_ishr C dJ0_length_8abf5_9 ?_
  have hz : (Int32.ofNat (strL.getD i 0)) >>> ((0 : Int32) &&& 31) = Int32.ofNat (strL.getD i 0) := by rw [show (0 : Int32) &&& 31 = 0 by decide]; simp
  rw [hz]
  exact V_iret C rfl rfl dJ0_length_8abf5_10
set_option maxRecDepth 100000 in
set_option maxHeartbeats 4000000 in
theorem pc_checkN {sh : Sh} {σ : St} {x y : Int32} {t : Nat} (h1 : ¬ x < 0) (h2 : x < y) : Ct sh 0 yJ3_checkIndex_8e157 cJ3_checkIndex_8e157 3 (some .int) (fun G => [.int x, .int y, .null]) σ (fun G => some (.int x)) σ := by
  refine Ct.of mw_J3_checkIndex_8e157.1 (by decide +kernel) (fun G => Nat.le_of_ble_eq_true rfl) (fun G p l e d s m args below meth c A hd C => ?_)
  refine (?_ : Vw sh G p l e d s m args below meth c 3 A σ 0 [(0, .int x), (1, .int y), (2, .null)] [] (some (.int x)) σ)
  refine V_iload_n C 0 dJ3_checkIndex_8e157_0 rfl rfl ?_
  refine V_if_ltF C 9 dJ3_checkIndex_8e157_1 (by decide) h1 ?_
  refine V_iload_n C 0 dJ3_checkIndex_8e157_4 rfl rfl ?_
  refine V_iload_n C 1 dJ3_checkIndex_8e157_5 rfl rfl ?_
  refine V_icmp_ltT C 16 dJ3_checkIndex_8e157_6 (by decide) h2 ?_
  refine V_iload_n C 0 dJ3_checkIndex_8e157_16 rfl rfl ?_
  exact V_iret C rfl rfl dJ3_checkIndex_8e157_17
set_option maxRecDepth 100000 in
set_option maxHeartbeats 4000000 in
theorem pc_checkR {sh : Sh} {σ : St} {x y : Int32} {t : Nat} (h1 : ¬ x < 0) (h2 : x < y) : Ct sh 0 yJ3_checkIndex_8e157 cJ3_checkIndex_8e157 3 (some .int) (fun G => [.int x, .int y, .ref t]) σ (fun G => some (.int x)) σ := by
  refine Ct.of mw_J3_checkIndex_8e157.1 (by decide +kernel) (fun G => Nat.le_of_ble_eq_true rfl) (fun G p l e d s m args below meth c A hd C => ?_)
  refine (?_ : Vw sh G p l e d s m args below meth c 3 A σ 0 [(0, .int x), (1, .int y), (2, .ref t)] [] (some (.int x)) σ)
  refine V_iload_n C 0 dJ3_checkIndex_8e157_0 rfl rfl ?_
  refine V_if_ltF C 9 dJ3_checkIndex_8e157_1 (by decide) h1 ?_
  refine V_iload_n C 0 dJ3_checkIndex_8e157_4 rfl rfl ?_
  refine V_iload_n C 1 dJ3_checkIndex_8e157_5 rfl rfl ?_
  refine V_icmp_ltT C 16 dJ3_checkIndex_8e157_6 (by decide) h2 ?_
  refine V_iload_n C 0 dJ3_checkIndex_8e157_16 rfl rfl ?_
  exact V_iret C rfl rfl dJ3_checkIndex_8e157_17
set_option maxRecDepth 100000 in
set_option maxHeartbeats 4000000 in
theorem sc_check {sh : Sh} {σ : St} {x y : Int32} (h1 : ¬ x < 0) (h2 : x < y) : Ct sh 1 yJ0_checkIndex_df160 cJ0_checkIndex_df160 2 none (fun G => [.int x, .int y]) σ (fun G => none) σ := by
  refine Ct.of mw_J0_checkIndex_df160.1 (by decide +kernel) (fun G => Nat.le_of_ble_eq_true rfl) (fun G p l e d s m args below meth c A hd C => ?_)
  refine (?_ : Vw sh G p l e d s m args below meth c 2 A σ 0 [(0, .int x), (1, .int y)] [] (none) σ)
  refine V_iload_n C 0 dJ0_checkIndex_df160_0 rfl rfl ?_
  refine V_iload_n C 1 dJ0_checkIndex_df160_1 rfl rfl ?_
  refine V_getsQ C qJf1053 dJ0_checkIndex_df160_2 ?_ (fun t => ?_)
  · refine V_callSi (As := [.int x, .int y, .null]) C (pc_checkN (t := 0) h1 h2) mw_J3_checkIndex_8e157.1 mw_J3_checkIndex_8e157.2 qJ1059 (by omega) rfl rfl rfl (Nat.le_of_ble_eq_true rfl) dJ0_checkIndex_df160_5 ?_
    refine V_pop C dJ0_checkIndex_df160_8 rfl ?_
    exact V_vret C rfl dJ0_checkIndex_df160_9
  · refine V_callSi (As := [.int x, .int y, .ref t]) C (pc_checkR (t := t) h1 h2) mw_J3_checkIndex_8e157.1 mw_J3_checkIndex_8e157.2 qJ1059 (by omega) rfl rfl rfl (Nat.le_of_ble_eq_true rfl) dJ0_checkIndex_df160_5 ?_
    refine V_pop C dJ0_checkIndex_df160_8 rfl ?_
    exact V_vret C rfl dJ0_checkIndex_df160_9
theorem sc_fact : ∀ i, i < 13 → ∀ j, j < strL.getD i 0 → ((((strB.getD i []).getD j 0 &&& 255 : Int32).toUInt32.toUInt16.toUInt32.toInt32 = (strB.getD i []).getD j 0) ∧ narrow .char (.int ((strB.getD i []).getD j 0)) = .int ((strB.getD i []).getD j 0)) := by decide +kernel
theorem sc_in {x : Int32} {n : Nat} (hn : n < 2 ^ 31) (hx : ¬ ob x n) : ¬ x < 0 ∧ x < Int32.ofNat n ∧ x.toNatClampNeg < n := by
  have h1 : ¬ x < 0 := fun h => hx (Or.inl h)
  have h2 : x.toNatClampNeg < n := Nat.not_le.mp fun h => hx (Or.inr h)
  obtain ⟨j, hj, rfl⟩ := nI_of h1
  rw [nI_clamp hj] at h2
  exact ⟨h1, nI_lt h2 hn, by rw [nI_clamp hj]; exact h2⟩
theorem sc_small : ∀ i, i < 13 → strL.getD i 0 < 2 ^ 31 := by decide +kernel
set_option maxRecDepth 100000 in
set_option maxHeartbeats 4000000 in
theorem sl_charAt {sh : Sh} {σ : St} {i : Nat} {x : Int32} (hi : i < 13) (hx : ¬ ob x (strL.getD i 0)) : Ct sh 2 yJ1_charAt_3b067 cJ1_charAt_3b067 2 (some .char) (fun G => [.ref (G.2.2.2.2.2 i), .int x]) σ (fun G => some (.int ((strB.getD i []).getD x.toNatClampNeg 0))) σ := by
  refine Ct.of mw_J1_charAt_3b067.1 (by decide +kernel) (fun G => Nat.le_of_ble_eq_true rfl) (fun G p l e d s m args below meth c A hd C => ?_)
  refine (?_ : Vw sh G p l e d s m args below meth c 2 A σ 0 [(0, .ref (G.2.2.2.2.2 i)), (1, .int x)] [] (some (.int ((strB.getD i []).getD x.toNatClampNeg 0))) σ)
  obtain ⟨h1, h2, h3⟩ := sc_in (sc_small i hi) hx
  obtain ⟨f1, f2⟩ := sc_fact i hi _ h3
  refine V_iload_n C 1 dJ1_charAt_3b067_0 rfl rfl ?_
  refine V_aload_n C 0 dJ1_charAt_3b067_1 rfl rfl ?_
  refine V_sbl C hi rfl dJ1_charAt_3b067_2 ?_
  refine V_callSv (As := [.int x, .int (Int32.ofNat (strL.getD i 0))]) C (sc_check h1 h2) mw_J0_checkIndex_df160.1 mw_J0_checkIndex_df160.2 qJ9 (by omega) rfl rfl rfl (Nat.le_of_ble_eq_true rfl) dJ1_charAt_3b067_3 ?_
  refine V_aload_n C 0 dJ1_charAt_3b067_6 rfl rfl ?_
  refine V_iload_n C 1 dJ1_charAt_3b067_7 rfl rfl ?_
  refine V_sbld C hi hx dJ1_charAt_3b067_8 ?_
  refine V_sipush C (w := 255) dJ1_charAt_3b067_9 (by decide) ?_
  refine V_iand C dJ1_charAt_3b067_12 ?_
  refine V_i2c C dJ1_charAt_3b067_13 f1 ?_
  exact V_iret C rfl f2 dJ1_charAt_3b067_14
set_option maxRecDepth 100000 in
set_option maxHeartbeats 4000000 in
theorem sc_charAt {sh : Sh} {σ : St} {i : Nat} {x : Int32} (hi : i < 13) (hx : ¬ ob x (strL.getD i 0)) : Ct sh 3 yJ0_charAt_5068e cJ0_charAt_5068e 2 (some .char) (fun G => [.ref (G.2.2.2.2.1 i), .int x]) σ (fun G => some (.int ((strB.getD i []).getD x.toNatClampNeg 0))) σ := by
  refine Ct.of mw_J0_charAt_5068e.1 (by decide +kernel) (fun G => Nat.le_of_ble_eq_true rfl) (fun G p l e d s m args below meth c A hd C => ?_)
  refine (?_ : Vw sh G p l e d s m args below meth c 2 A σ 0 [(0, .ref (G.2.2.2.2.1 i)), (1, .int x)] [] (some (.int ((strB.getD i []).getD x.toNatClampNeg 0))) σ)
  obtain ⟨h1, h2, h3⟩ := sc_in (sc_small i hi) hx
  obtain ⟨f1, f2⟩ := sc_fact i hi _ h3
  refine V_aload_n C 0 dJ0_charAt_5068e_0 rfl rfl ?_
  refine V_callVSi (As := []) C (sc_latin hi) mw_J0_isLatin1_aae02.1 mw_J0_isLatin1_aae02.2.1 mw_J0_isLatin1_aae02.2.2 qJ492 hi rfl (by omega) rfl rfl rfl (Nat.le_of_ble_eq_true rfl) dJ0_charAt_5068e_1 ?_
  refine V_if_eqF C 16 dJ0_charAt_5068e_4 (by decide) (by decide) ?_
  refine V_aload_n C 0 dJ0_charAt_5068e_7 rfl rfl ?_
  refine V_sgetV C hi qJf9 dJ0_charAt_5068e_8 ?_
  refine V_iload_n C 1 dJ0_charAt_5068e_11 rfl rfl ?_
  refine V_callSi (As := [.ref (G.2.2.2.2.2 i), .int x]) C (sl_charAt hi hx) mw_J1_charAt_3b067.1 mw_J1_charAt_3b067.2 qJ495 (by omega) rfl rfl rfl (Nat.le_of_ble_eq_true rfl) dJ0_charAt_5068e_12 ?_
  exact V_iret C rfl f2 dJ0_charAt_5068e_15
section SROWS2
variable {sh : Sh} {G : Gx} {p : Program} {l : Launch} {e : Env} {d : Nat} {s : State} {m : MethodId} {args : Array Value} {below : List Frame} {meth : Method} {c : Code} {own : String} {cc : ByteArray} {nL : Nat} {ret : Option FieldType} {A : Nat → Prop} {σ τ : St} {pc : Nat} {lv lv' : List (Nat × Value)} {st : List Value} {R : Room} {cells slots : Nat} {Q : State → Prop}
theorem V_sLen (C : OK sh G p s m args meth c own cc nL ret A) {i index : Nat} {x : Int32} (h : sLen i = some x) (hw : Cond.methodLink own index yJ0_length_8abf5 ∈ wsL_law) (hd : 7 ≤ d) (hst : (st.map fun v => v.category).sum ≤ 8) (hdg : decode cc pc = .ok (.invokevirtual index, 3)) (k9 : Uw sh G p l e d R s m args below meth c nL A cells slots Q σ (pc + 3) lv (.int x :: st)) : Uw sh G p l e d R s m args below meth c nL A cells slots Q σ pc lv (.ref (G.2.2.2.2.1 i) :: st) := by
  unfold sLen at h
  by_cases hi : i < 13
  · rw [if_pos hi] at h
    obtain rfl := Option.some.inj h
    exact V_callVSi (As := []) C (sc_len hi) mw_J0_length_8abf5.1 mw_J0_length_8abf5.2.1 mw_J0_length_8abf5.2.2 hw hi rfl (by omega) rfl rfl rfl hst hdg k9
  · rw [if_neg hi] at h
    cases h
theorem V_sCh (C : OK sh G p s m args meth c own cc nL ret A) {i index : Nat} {y x : Int32} (h : sCh i y = some x) (hw : Cond.methodLink own index yJ0_charAt_5068e ∈ wsL_law) (hd : 7 ≤ d) (hst : (st.map fun v => v.category).sum ≤ 8) (hdg : decode cc pc = .ok (.invokevirtual index, 3)) (k9 : Uw sh G p l e d R s m args below meth c nL A cells slots Q σ (pc + 3) lv (.int x :: st)) : Uw sh G p l e d R s m args below meth c nL A cells slots Q σ pc lv (.int y :: .ref (G.2.2.2.2.1 i) :: st) := by
  unfold sCh at h
  by_cases hi : i < 13
  · rw [if_pos hi] at h
    by_cases hy : ob y (strL.getD i 0)
    · rw [if_pos hy] at h
      cases h
    · rw [if_neg hy] at h
      obtain rfl := Option.some.inj h
      exact V_callVSi (As := [.int y]) C (sc_charAt hi hy) mw_J0_charAt_5068e.1 mw_J0_charAt_5068e.2.1 mw_J0_charAt_5068e.2.2 hw hi rfl (by omega) rfl rfl rfl hst hdg k9
  · rw [if_neg hi] at h
    cases h
end SROWS2
