theorem ck_known {s : State} {args : Array Value} (hts : ∀ w ∈ wsL_law, w.before args s = true) : ∃ (dC : Nat → ClassId) (dI : Nat → Nat → Nat), ∀ (k : Nat) (q : vw_C), vwCl[k]? = some q → u_Kn s q.1 q.2.1 q.2.2 (dC k) (dI k) := by
  obtain ⟨c0, i0, h0⟩ := u_known (C := RX0) (T := TX0) (N := 7) (n := 7) hts hinX0 (hts _ (wu (tb1 (List.mem_of_getElem? (i := 231) (by decide +kernel))) rfl))
  obtain ⟨c1, i1, h1⟩ := u_known (C := RX1) (T := TX1) (N := 10) (n := 10) hts hinX1 (hts _ (wu (tb1 (List.mem_of_getElem? (i := 150) (by decide +kernel))) rfl))
  obtain ⟨c2, i2, h2⟩ := u_known (C := RX2) (T := TX2) (N := 2) (n := 2) hts hinX2 (hts _ (wu (tb1 (List.mem_of_getElem? (i := 135) (by decide +kernel))) rfl))
  obtain ⟨c3, i3, h3⟩ := u_known (C := RX3) (T := TX3) (N := 7) (n := 7) hts hinX3 (hts _ (wu (tb2 (List.mem_of_getElem? (i := 24) (by decide +kernel))) rfl))
  obtain ⟨c4, i4, h4⟩ := u_known (C := RX4) (T := TX4) (N := 9) (n := 9) hts hinX4 (hts _ (wu (tb1 (List.mem_of_getElem? (i := 156) (by decide +kernel))) rfl))
  obtain ⟨c5, i5, h5⟩ := u_known (C := RX5) (T := TX5) (N := 10) (n := 10) hts hinX5 (hts _ (wu (tb1 (List.mem_of_getElem? (i := 27) (by decide +kernel))) rfl))
  obtain ⟨c6, i6, h6⟩ := u_known (C := RX6) (T := TX6) (N := 3) (n := 3) hts hinX6 (hts _ (wu (tb2 (List.mem_of_getElem? (i := 54) (by decide +kernel))) rfl))
  obtain ⟨c7, i7, h7⟩ := u_known (C := RX7) (T := TX7) (N := 5) (n := 5) hts hinX7 (hts _ (wu (tb1 (List.mem_of_getElem? (i := 82) (by decide +kernel))) rfl))
  obtain ⟨c8, i8, h8⟩ := u_known (C := RX8) (T := TX8) (N := 6) (n := 6) hts hinX8 (hts _ (wu (tb1 (List.mem_of_getElem? (i := 107) (by decide +kernel))) rfl))
  obtain ⟨c9, i9, h9⟩ := u_known (C := RX9) (T := TX9) (N := 10) (n := 10) hts hinX9 (hts _ (wu (tb1 (List.mem_of_getElem? (i := 19) (by decide +kernel))) rfl))
  obtain ⟨c10, i10, h10⟩ := u_known (C := RX10) (T := TX10) (N := 48) (n := 48) hts hinX10 (hts _ (wu (tb4 (List.mem_of_getElem? (i := 151) (by decide +kernel))) rfl))
  refine ⟨fun k => ([c0, c1, c2, c3, c4, c5, c6, c7, c8, c9, c10] : List ClassId).getD k c0, fun k => ([i0, i1, i2, i3, i4, i5, i6, i7, i8, i9, i10] : List (Nat → Nat)).getD k i0, ?_⟩
  intro k q hq
  match k, hq with
  | 0, hq => cases hq; exact h0
  | 1, hq => cases hq; exact h1
  | 2, hq => cases hq; exact h2
  | 3, hq => cases hq; exact h3
  | 4, hq => cases hq; exact h4
  | 5, hq => cases hq; exact h5
  | 6, hq => cases hq; exact h6
  | 7, hq => cases hq; exact h7
  | 8, hq => cases hq; exact h8
  | 9, hq => cases hq; exact h9
  | 10, hq => cases hq; exact h10
  | k + 11, hq => simp [vwCl] at hq
theorem arr_known {s : State} {args : Array Value} (h1 : (Cond.arrayClass .int).before args s = true) (h2 : (Cond.arrayClass .boolean).before args s = true) (h3 : (Cond.arrayOver (.array .int)).before args s = true) (h4 : (Cond.arrayOver (.object "SamovarOpinions$Sheet")).before args s = true) : ∃ cy : Nat → ClassId, ∀ (k : Nat) (q : ClassId × FieldType), ([(cy 0, .int), (cy 1, .boolean), (cy 2, .array .int), (cy 3, .object "SamovarOpinions$Sheet")] : List (ClassId × FieldType))[k]? = some q → ArrOfT s q.1 q.2 ∧ va_RA s q.1 q.2 := by
  obtain ⟨c1, k1, m1, a1, b1, d1⟩ := Cond.arrayClass_spec (type := .int) h1
  obtain ⟨c2, k2, m2, a2, b2, d2⟩ := Cond.arrayClass_spec (type := .boolean) h2
  obtain ⟨m3, c3, k3, a3, -, b3, d3, e3⟩ := arrayOver_specB h3
  obtain ⟨m4, c4, k4, a4, -, b4, d4, e4⟩ := Cond.arrayOver_spec h4
  refine ⟨fun k => ([c1, c2, c3, c4] : List ClassId).getD k c1, ?_⟩
  intro k q hq
  match k, hq with
  | 0, hq => cases hq; exact ⟨fun n z => ⟨fun k h => (by cases h), k1, b1, m1, d1⟩, a1⟩
  | 1, hq => cases hq; exact ⟨fun n z => ⟨fun k h => (by cases h), k2, b2, m2, d2⟩, a2⟩
  | 2, hq => cases hq; exact ⟨fun n z => ⟨fun k h => (by cases h), k3, b3, m3, d3⟩, e3⟩
  | 3, hq => cases hq; exact ⟨fun n z => ⟨fun k h => (by cases h), k4, b4, m4, d4⟩, k4, m4, b4, d4, a4, e4⟩
  | k + 4, hq => simp at hq
theorem st_one {s : State} {args : Array Value} {nm : String} {N : Nat} {vals : List Int32} {A : Nat → Prop} (hN : N < 2 ^ 31) (h1 : (Cond.arrayOf (.static "SamovarOpinions" nm "[I") .int).before args s = true) (h2 : (Cond.eq (.length (.static "SamovarOpinions" nm "[I")) (.int (Int32.ofNat N))).before args s = true) (h3 : ∀ j, j < N → (Cond.eq (.elem (.static "SamovarOpinions" nm "[I") (.int (Int32.ofNat j))) (.int (vals.getD j 0))).before args s = true) (hl : (Cond.laysStatic "SamovarOpinions" nm "[I").before args s = true) (hi : (Cond.initialized "SamovarOpinions").before args s = true) (hA : ∀ a : Nat, a < s.heap.size → ¬ A a) : ∃ t : Nat, va_Z "SamovarOpinions" nm "[I" (.ref t) A s s.heap ∧ va_T .int t N (fun j => .int (vals.getD j 0)) A s s.heap := by
  obtain ⟨t, ht, hT⟩ := va_Tof (f := fun j => .int (vals.getD j 0)) (A := A) hN h1 (va_eqt h2) (fun j hj => va_eqt (h3 j hj)) hA
  exact ⟨t, va_Zof hl hi ht hA, hT⟩
def fl0 : List Cond := flatC (Jvm.Cond.and given_1 narrow_1)
def strT (i : Nat) : Term := .string (strO.getD i ("", 0, "")).1 (strO.getD i ("", 0, "")).2.1
theorem fl_st1 : ∀ i, i < 3 → Cond.arrayOf (.static "SamovarOpinions" (stNm.getD i ("", [])).1 "[I") .int ∈ fl0 := by decide +kernel
theorem fl_st2 : ∀ i, i < 3 → Cond.eq (.length (.static "SamovarOpinions" (stNm.getD i ("", [])).1 "[I")) (.int (Int32.ofNat (stNm.getD i ("", [])).2.length)) ∈ fl0 := by decide +kernel
theorem fl_st3 : ∀ i, i < 3 → ∀ j, j < (stNm.getD i ("", [])).2.length → Cond.eq (.elem (.static "SamovarOpinions" (stNm.getD i ("", [])).1 "[I") (.int (Int32.ofNat j))) (.int ((stNm.getD i ("", [])).2.getD j 0)) ∈ fl0 := by decide +kernel
theorem fl_cs : Cond.eq (.static "java/lang/String" "COMPACT_STRINGS" "Z") (.int 1) ∈ fl0 := by decide +kernel
theorem fl_sf : Cond.isRef (.static "jdk/internal/util/Preconditions" "SIOOBE_FORMATTER" "Ljava/util/function/BiFunction;") ∈ fl0 := by decide +kernel
theorem fl_s1 : ∀ i, i < 13 → Cond.exactly (strT i) "java/lang/String" ∈ fl0 := by decide +kernel
theorem fl_s2 : ∀ i, i < 13 → Cond.eq (.field (strT i) "java/lang/String" "coder" "B") (.int 0) ∈ fl0 := by decide +kernel
theorem fl_s3 : ∀ i, i < 13 → Cond.arrayOf (.field (strT i) "java/lang/String" "value" "[B") .byte ∈ fl0 := by decide +kernel
theorem fl_s4 : ∀ i, i < 13 → Cond.eq (.length (.field (strT i) "java/lang/String" "value" "[B")) (.int (Int32.ofNat (strL.getD i 0))) ∈ fl0 := by decide +kernel
theorem fl_s5 : ∀ i, i < 13 → ∀ j, j < strL.getD i 0 → Cond.eq (.elem (.field (strT i) "java/lang/String" "value" "[B") (.int (Int32.ofNat j))) (.int ((strB.getD i []).getD j 0)) ∈ fl0 := by decide +kernel
theorem fl_s6 : ∀ i, i < 13 → ∀ j, j < 13 → i < j → Cond.not (Cond.eq (strT i) (strT j)) ∈ fl0 := by decide +kernel
theorem fl_s7 : ∀ i, i < 13 → Cond.stringRef (strO.getD i ("", 0, "")).1 (strO.getD i ("", 0, "")).2.1 (strO.getD i ("", 0, "")).2.2 ∈ tables_1 := by
  intro i hi
  rcases (show i = 0 ∨ i = 1 ∨ i = 2 ∨ i = 3 ∨ i = 4 ∨ i = 5 ∨ i = 6 ∨ i = 7 ∨ i = 8 ∨ i = 9 ∨ i = 10 ∨ i = 11 ∨ i = 12 by omega) with rfl | rfl | rfl | rfl | rfl | rfl | rfl | rfl | rfl | rfl | rfl | rfl | rfl
  · exact tb2 (List.mem_of_getElem? (i := 73) (by decide +kernel))
  · exact tb2 (List.mem_of_getElem? (i := 160) (by decide +kernel))
  · exact tb2 (List.mem_of_getElem? (i := 167) (by decide +kernel))
  · exact tb2 (List.mem_of_getElem? (i := 168) (by decide +kernel))
  · exact tb2 (List.mem_of_getElem? (i := 169) (by decide +kernel))
  · exact tb2 (List.mem_of_getElem? (i := 170) (by decide +kernel))
  · exact tb2 (List.mem_of_getElem? (i := 171) (by decide +kernel))
  · exact tb2 (List.mem_of_getElem? (i := 172) (by decide +kernel))
  · exact tb2 (List.mem_of_getElem? (i := 173) (by decide +kernel))
  · exact tb2 (List.mem_of_getElem? (i := 174) (by decide +kernel))
  · exact tb2 (List.mem_of_getElem? (i := 175) (by decide +kernel))
  · exact tb2 (List.mem_of_getElem? (i := 176) (by decide +kernel))
  · exact tb2 (List.mem_of_getElem? (i := 177) (by decide +kernel))
theorem sx_start {s : State} {b : Addr} {A : Nat → Prop} (hT : ∀ w ∈ tables_1, w.before #[Value.ref b] s = true) (hg : (Jvm.Cond.and given_1 narrow_1).before #[Value.ref b] s = true) (hA : ∀ a : Nat, a < s.heap.size → ¬ A a) : ∃ (sa adK adV : Nat → Nat), ∀ (D : va_G) (ad : Nat → Nat) (cy : Nat → ClassId), SX (D, ad, cy, sa, adK, adV) A s s.heap := by
  have hs : ∀ c ∈ fl0, c.before #[Value.ref b] s = true := flat_of_before _ hg
  have hst : ∀ i, ∃ t : Nat, i < 3 → va_Z "SamovarOpinions" (stNm.getD i ("", [])).1 "[I" (.ref t) A s s.heap ∧ va_T .int t (stNm.getD i ("", [])).2.length (fun j => .int ((stNm.getD i ("", [])).2.getD j 0)) A s s.heap := by
    intro i
    by_cases hi : i < 3
    · have hl : (Cond.laysStatic "SamovarOpinions" (stNm.getD i ("", [])).1 "[I").before #[Value.ref b] s = true := by
        rcases (show i = 0 ∨ i = 1 ∨ i = 2 by omega) with rfl | rfl | rfl
        · exact hT _ (tb3 (List.mem_of_getElem? (i := 37) (by decide +kernel)))
        · exact hT _ (tb3 (List.mem_of_getElem? (i := 39) (by decide +kernel)))
        · exact hT _ (tb4 (List.mem_of_getElem? (i := 149) (by decide +kernel)))
      obtain ⟨t, h⟩ := st_one (A := A) (show (stNm.getD i ("", [])).2.length < 2 ^ 31 by rcases (show i = 0 ∨ i = 1 ∨ i = 2 by omega) with rfl | rfl | rfl <;> decide) (hs _ (fl_st1 i hi)) (hs _ (fl_st2 i hi)) (fun j hj => hs _ (fl_st3 i hi j hj)) hl (hT _ (tb1 (List.mem_of_getElem? (i := 1) (by decide +kernel)))) hA
      exact ⟨t, fun _ => h⟩
    · exact ⟨0, fun h => absurd h hi⟩
  obtain ⟨sa, hsa⟩ := Classical.axiomOfChoice hst
  obtain ⟨adK, adV, hK, hev⟩ := vk_Sof (N := 13) (tm := strT) (len := strL) (byt := strB) (A := A) sc_small (fun i hi => hs _ (fl_s1 i hi)) (fun i hi => hs _ (fl_s2 i hi)) (fun i hi => hs _ (fl_s3 i hi)) (fun i hi => hs _ (fl_s4 i hi)) (fun i hi j hj => hs _ (fl_s5 i hi j hj)) (fun i j hi hj hij => by
    rcases Nat.lt_or_gt_of_ne hij with h | h
    · exact Or.inl (hs _ (fl_s6 i hi j hj h))
    · exact Or.inr (hs _ (fl_s6 j hj i hi h))) hA
  refine ⟨sa, adK, adV, fun D ad cy => ⟨fun i hi => hsa i hi, hK, fun i hi => vk_R.of (hT _ (fl_s7 i hi)) (hev i hi), fun w hw => ?_, va_Zof (hT _ (tb2 (List.mem_of_getElem? (i := 83) (by decide +kernel)))) (hT _ (tb1 (List.mem_of_getElem? (i := 11) (by decide +kernel)))) (va_eqt (hs _ fl_cs)) hA, va_Zqof (hT _ (tb2 (List.mem_of_getElem? (i := 99) (by decide +kernel)))) (hT _ (tb1 (List.mem_of_getElem? (i := 13) (by decide +kernel)))) (hs _ fl_sf) hA⟩⟩
  have hw2 := List.mem_filter.mp hw
  have hn := hw2.2
  have hb := hT w hw2.1
  unfold isNest at hn
  split at hn
  · exact va_Nw.of rfl hb
  · exact va_Nw.of rfl hb
  · cases hn
theorem K_toL {G : Gx} {p : Program} {l : Launch} {e : Env} {R : Room} {s : State} {m : MethodId} {below : List Frame} {meth : Method} {c : Code} {cells slots : Nat} {Q : State → Prop} {σ μ : St} {pc : Nat} {lv : List (Nat × Value)} {st : List Value} {b q q2 L : Nat} {r r2 : Nat → Nat} {xs : Nat → Int32} (C : OKK G p s m #[Value.ref b] meth c RL cL_law 4 ret (fun q => s.heap.size ≤ q)) (hX : va_X b L xs s s.heap) (hb : b < s.heap.size)
    (hU : OKL (gx G q r) (gx G q2 r2).2.1 p s m #[Value.ref b] meth c b L xs (fun q => s.heap.size ≤ q) → Lw (gx G q r) (gx G q2 r2).2.1 p l e R s m #[Value.ref b] below meth c (fun q => s.heap.size ≤ q) cells slots Q σ μ pc lv st) : Kw G p l e R s m #[Value.ref b] below meth c 4 (fun q => s.heap.size ≤ q) cells slots Q (Wd shX (gx G q r) σ ++ Wd shM (gx G q2 r2) μ) pc lv st := by
  intro H locs ls hP hD hS hl
  have eX : ∀ i, i < shX.1 → (Wd shX (gx G q r) σ ++ Wd shM (gx G q2 r2) μ)[i]? = some ((gx G q r).2.1 i, ce shX (gx G q r) σ i) := fun i hi => by
    rw [List.getElem?_append_left (by rw [Wd_len]; exact hi), Wd_at hi]
  have eM : ∀ j, j < shM.1 → (Wd shX (gx G q r) σ ++ Wd shM (gx G q2 r2) μ)[shX.1 + j]? = some ((gx G q2 r2).2.1 j, ce shM (gx G q2 r2) μ j) := fun j hj => by
    rw [List.getElem?_append_right (by rw [Wd_len]; omega), Wd_len, Nat.add_sub_cancel_left, Wd_at hj]
  refine hU ⟨C.1, C.2.1, C.2.2.1, C.2.2.2.1, C.2.2.2.2.1, C.2.2.2.2.2.2.2.1, fun i j hi hj h => hD.1 i j _ _ (eX i hi) (eX j hj) h, fun i j hi hj h => ?_, fun i j hi hj h => ?_, fun i hi => hD.2 i _ (eX i hi), fun j hj => hD.2 _ _ (eM j hj), C.2.2.2.2.2.2.2.2.1, fun _ h => h, hX, Nat.not_le.mpr hb, hb⟩ H locs ls (fun k z hz => ?_) (fun k z hz => ?_) hS hl
  · have := hD.1 _ _ _ _ (eM i hi) (eM j hj) h
    omega
  · have := hD.1 _ _ _ _ (eX i hi) (eM j hj) h
    omega
  · obtain ⟨hk, rfl⟩ := Wd_some hz
    exact hP k _ (eX k hk)
  · obtain ⟨hk, rfl⟩ := Wd_some hz
    exact hP _ _ (eM k hk)
set_option maxRecDepth 100000 in
set_option maxHeartbeats 4000000 in
/-- THE LAW FROM ITS ENTRY, over a relation of the two states that holds behind the constructors and that every call keeps -/
theorem whole_open {Rel : St → St → Prop} {x0 m0 : St} (hS : Sim Rel) (hx0 : X9_init_b169 FU 0 σX0 = some x0) (hm0 : X10_init_b145 σM0 = some m0) (hR0 : Rel x0 m0) {p : Program} {e : Env} {s : State} {m : MethodId} {below : List Frame} {meth : Method} {c : Code} (l : Launch) {b L : Nat} {xs : Nat → Int32} {Q : State → Prop} (hL : L ≤ 3072) (hx : p.tables.exec = Jvm.exec) (hb : c.code = code) (hr : meth.sig.returnType = ret) (hml : c.maxLocals = 4) (hown : s.vm.findClass RL = some m.cls) (hts : ∀ w ∈ lw_tbl, w.before #[Value.ref b] s = true) (hX : va_X b L xs s s.heap) (hbl : b < s.heap.size) (hlocks : meth.locks = false) (hgv : (Jvm.Cond.and given_1 narrow_1).before #[Value.ref b] s = true)
    (kend : ∀ (H : Heap) (locs : List Loc) (ls : Array Slot), (∀ q ∈ locs, s.heap.size ≤ q.base) → W p l e room_1 s m #[Value.ref b] below meth c H locs 600000 7302250 Q (F0 m 921 ls [.int 1])) : W p l e room_1 s m #[Value.ref b] below meth c s.heap [] 0 0 Q (entryFrame m ([Value.ref b] : List Value).toArray 4) := by
  have htU : ∀ w ∈ wsL_law, w.before #[Value.ref b] s = true := fun w h => hts w (wsL_law_in w h)
  have hT : ∀ w ∈ tables_1, w.before #[Value.ref b] s = true := fun w h => hts w (List.mem_append_right _ h)
  have hA : ∀ a : Nat, a < s.heap.size → ¬ (fun q : Nat => s.heap.size ≤ q) a := fun _ h => Nat.not_le.mpr h
  obtain ⟨dC, dI, hKn⟩ := ck_known htU
  have hao := hT (Cond.arrayOver (.object "SamovarOpinions$Sheet")) (tb1 (List.mem_of_getElem? (i := 148) (by decide +kernel)))
  have haoa := hT (Cond.arrayOver (.array .int)) (tb1 (List.mem_of_getElem? (i := 113) (by decide +kernel)))
  obtain ⟨cy, hcy⟩ := arr_known (htU _ qa_I) (htU _ qa_Z) haoa hao
  obtain ⟨sa, adK, adV, hSX⟩ := sx_start hT hgv hA
  have C : OKK (((dC, dI), (fun _ => 0), cy, sa, adK, adV) : Gx) p s m #[Value.ref b] meth c RL cL_law 4 ret (fun q => s.heap.size ≤ q) := ⟨hx, hb, hml, hown, htU, hlocks, hr, ⟨hKn, hcy⟩, hSX _ _ _, fun _ h => h, Or.inl rfl, hao, haoa⟩
  generalize hG : (((dC, dI), (fun _ => 0), cy, sa, adK, adV) : Gx) = G at C
  have hl := lv_entry ([.ref b]) (n := 4) (Nat.le_of_ble_eq_true rfl)
  rw [lg_entry_eq]
  have start : Kw G p l e room_1 s m #[Value.ref b] below meth c 4 (fun q => s.heap.size ≤ q) 0 0 Q [] 0 [(0, .ref b)] [] := by
    refine K_new (ci := 9) (fs := [.null, .null, .int 0, .null, .null, .null, .null, .null, .null, .null]) C tyX9 hinX9 tyX9_ok (wu (tb1 (List.mem_of_getElem? (i := 18) (by decide +kernel))) rfl) (wu (tb1 (List.mem_of_getElem? (i := 19) (by decide +kernel))) rfl) (wu (tb1 (List.mem_of_getElem? (i := 1) (by decide +kernel))) rfl) rfl (fun j hj => by rcases (show j = 0 ∨ j = 1 ∨ j = 2 ∨ j = 3 ∨ j = 4 ∨ j = 5 ∨ j = 6 ∨ j = 7 ∨ j = 8 ∨ j = 9 by omega) with rfl | rfl | rfl | rfl | rfl | rfl | rfl | rfl | rfl | rfl <;> rfl) (Nat.le_of_ble_eq_true rfl) (Nat.le_of_ble_eq_true rfl) dL_law_0 (fun q9 => ?_)
    refine K_dup C dL_law_3 rfl ?_
    refine K_init (R := room_1) (st := [.ref q9]) (ws := []) (b := q9) (av := []) C (c9_init hx0) mw_X9_init.1 rfl mw_X9_init.2 (wu (tb1 (List.mem_of_getElem? (i := 20) (by decide +kernel))) rfl) rfl rfl (Nat.le_of_ble_eq_true rfl) (Nat.le_of_ble_eq_true rfl) (Nat.le_of_ble_eq_true rfl) (Nat.le_of_ble_eq_true rfl) (Nat.le_of_ble_eq_true rfl) dL_law_4 (fun r => ?_)
    refine K_eq (ws' := Wd shX (gx G q9 r) x0) rfl ?_
    refine K_astore_n C (lv' := [(1, .ref q9), (0, .ref b)]) dL_law_7 rfl (by decide) rfl ?_
    refine K_new (ci := 10) (fs := [.int 0, .null, .null, .int 0, .int 0, .null, .int 0, .null, .int 0, .null, .null, .int 0, .int 0, .int 0, .int 0, .int 0, .int 0, .int 0, .int 0, .int 0, .int 0, .int 0, .int 0, .long 0, .int 0, .int 0, .int 0, .null, .null, .null, .null, .int 0, .int 0, .int 0, .int 0, .int 0, .int 0, .null, .null, .null, .null, .int 0, .int 0, .int 0, .null, .null, .null, .null]) C tyX10 hinX10 tyX10_ok (wu (tb4 (List.mem_of_getElem? (i := 150) (by decide +kernel))) rfl) (wu (tb4 (List.mem_of_getElem? (i := 151) (by decide +kernel))) rfl) (wu (tb1 (List.mem_of_getElem? (i := 15) (by decide +kernel))) rfl) rfl (fun j hj => by rcases (show j = 0 ∨ j = 1 ∨ j = 2 ∨ j = 3 ∨ j = 4 ∨ j = 5 ∨ j = 6 ∨ j = 7 ∨ j = 8 ∨ j = 9 ∨ j = 10 ∨ j = 11 ∨ j = 12 ∨ j = 13 ∨ j = 14 ∨ j = 15 ∨ j = 16 ∨ j = 17 ∨ j = 18 ∨ j = 19 ∨ j = 20 ∨ j = 21 ∨ j = 22 ∨ j = 23 ∨ j = 24 ∨ j = 25 ∨ j = 26 ∨ j = 27 ∨ j = 28 ∨ j = 29 ∨ j = 30 ∨ j = 31 ∨ j = 32 ∨ j = 33 ∨ j = 34 ∨ j = 35 ∨ j = 36 ∨ j = 37 ∨ j = 38 ∨ j = 39 ∨ j = 40 ∨ j = 41 ∨ j = 42 ∨ j = 43 ∨ j = 44 ∨ j = 45 ∨ j = 46 ∨ j = 47 by omega) with rfl | rfl | rfl | rfl | rfl | rfl | rfl | rfl | rfl | rfl | rfl | rfl | rfl | rfl | rfl | rfl | rfl | rfl | rfl | rfl | rfl | rfl | rfl | rfl | rfl | rfl | rfl | rfl | rfl | rfl | rfl | rfl | rfl | rfl | rfl | rfl | rfl | rfl | rfl | rfl | rfl | rfl | rfl | rfl | rfl | rfl | rfl | rfl <;> rfl) (Nat.le_of_ble_eq_true rfl) (Nat.le_of_ble_eq_true rfl) dL_law_8 (fun q10 => ?_)
    refine K_dup C dL_law_11 rfl ?_
    refine K_init (R := room_1) (st := [.ref q10]) (ws := Wd shX (gx G q9 r) x0) (b := q10) (av := []) C (c10_init hm0) mw_X10_init.1 rfl mw_X10_init.2 (wu (tb4 (List.mem_of_getElem? (i := 152) (by decide +kernel))) rfl) rfl rfl (Nat.le_of_ble_eq_true rfl) (Nat.le_of_ble_eq_true rfl) (Nat.le_of_ble_eq_true rfl) (Nat.le_of_ble_eq_true rfl) (Nat.le_of_ble_eq_true rfl) dL_law_12 (fun r2 => ?_)
    refine K_astore_n C (lv' := [(2, .ref q10), (1, .ref q9), (0, .ref b)]) dL_law_15 rfl (by decide) rfl ?_
    refine K_iconst C (w := nI 0) dL_law_16 (by decide) ?_
    refine K_istore_n C (lv' := [(3, .int (nI 0)), (2, .ref q10), (1, .ref q9), (0, .ref b)]) dL_law_17 rfl (by decide) rfl ?_
    refine K_toL (q := q9) (q2 := q10) (r := r) (r2 := r2) C hX hbl (fun CL => ?_)
    intro H locs ls hP hP2 hS2 hl2
    refine W.widen (k := 600000) (n := 7302250) (Nat.le_of_ble_eq_true rfl) (Nat.le_of_ble_eq_true rfl) ?_
    refine law_loop hS CL hL (fun σ μ lv H locs ls _ _ hS3 _ => ?_) (L + 1) 0 x0 m0 (Nat.zero_le _) (by omega) hR0 H locs ls hP hP2 hS2 (lv_sub hl2 [3, 2, 1, 0] rfl)
    exact lv_iconst (v := 1) hx hb dL_law_920 (by decide) (kend H locs ls (fun q hq => hS3.2.2 q hq))
  exact start s.heap [] _ (fun k q h => by simp at h) ⟨fun i j p q h => by simp at h, fun k q h => by simp at h⟩ va_S.rf hl
