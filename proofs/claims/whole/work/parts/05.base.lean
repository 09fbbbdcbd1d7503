theorem q_native : Cond.native arraycopyName ∈ wsL_law := wu (tb4 (List.mem_of_getElem? (i := 103) (by decide +kernel))) rfl
theorem q_acstatic : Cond.static arraycopyName ∈ wsL_law := wu (tb4 (List.mem_of_getElem? (i := 102) (by decide +kernel))) rfl
theorem q_sysinit : Cond.initialized "java/lang/System" ∈ wsL_law := wu (tb1 (List.mem_of_getElem? (i := 17) (by decide +kernel))) rfl
theorem q_mmaxS : Cond.static Lib.Math.max.name ∈ wsL_law := wu (tb3 (List.mem_of_getElem? (i := 112) (by decide +kernel))) rfl
theorem q_mminS : Cond.static Lib.Math.min.name ∈ wsL_law := wu (tb3 (List.mem_of_getElem? (i := 109) (by decide +kernel))) rfl
theorem q_mathI : Cond.initialized "java/lang/Math" ∈ wsL_law := wu (tb1 (List.mem_of_getElem? (i := 16) (by decide +kernel))) rfl
theorem q_mmaxC : Cond.code Lib.Math.max.name Lib.Math.max.code 2 (some .int) ∈ wsL_law := wu (tb3 (List.mem_of_getElem? (i := 113) (by decide +kernel))) rfl
theorem q_mminC : Cond.code Lib.Math.min.name Lib.Math.min.code 2 (some .int) ∈ wsL_law := wu (tb3 (List.mem_of_getElem? (i := 110) (by decide +kernel))) rfl
abbrev St : Type := (Nat → Nat → Int32) × Int64
def up (σ : St) (k j : Nat) (v : Int32) : St := (fun a b => if a = k ∧ b = j then v else σ.1 a b, σ.2)
def upL (σ : St) (w : Int64) : St := (σ.1, w)
def upA (σ : St) (k : Nat) (f : Nat → Int32) : St := (fun a b => if a = k then f b else σ.1 a b, σ.2)
/-- a shape: how many cells, the kind of each (below 20: an object of that class; 20 ..: an array of that type), its length, what it refers to -/
abbrev Sh : Type := Nat × (Nat → Nat) × (Nat → Nat) × (Nat → Nat → Nat)
/-- classes and slots; the cells' addresses; the arrays' classes; where the static arrays, the strings, their bytes are -/
abbrev Gx : Type := va_G × (Nat → Nat) × (Nat → ClassId) × (Nat → Nat) × (Nat → Nat) × (Nat → Nat)
def fk (ci j : Nat) : Nat := (([[2, 2, 0, 0, 0, 0, 0], [2, 2, 2, 2, 2, 2, 2, 2, 0, 0], [2, 2], [2, 2, 2, 2, 0, 0, 0], [0, 0, 0, 0, 0, 0, 0, 0, 0], [0, 0, 0, 0, 0, 0, 2, 2, 2, 2], [2, 0, 0], [2, 0, 0, 0, 0], [2, 2, 2, 2, 2, 0], [2, 2, 0, 2, 2, 2, 2, 2, 2, 2], [0, 2, 2, 0, 0, 2, 0, 2, 0, 2, 2, 0, 0, 0, 0, 0, 0, 0, 0, 0, 0, 0, 0, 1, 0, 0, 0, 2, 2, 2, 2, 0, 0, 0, 0, 0, 0, 2, 2, 2, 2, 0, 0, 0, 2, 2, 2, 2]] : List (List Nat)).getD ci []).getD j 0
def fv (sh : Sh) (G : Gx) (σ : St) (k j : Nat) : Value := if fk (sh.2.1 k) j = 0 then .int (σ.1 k j) else if fk (sh.2.1 k) j = 1 then .long σ.2 else .ref (G.2.1 (sh.2.2.2 k j))
def fl (sh : Sh) (G : Gx) (σ : St) (k : Nat) : List Value := (List.range (sh.2.2.1 k)).map (fv sh G σ k)
def ce (sh : Sh) (G : Gx) (σ : St) (k : Nat) : va_E := if sh.2.1 k < 20 then .inr (sh.2.1 k, fl sh G σ k) else if sh.2.1 k < 22 then .inl (G.2.2.1 (sh.2.1 k - 20), sh.2.2.1 k, .inl (σ.1 k)) else .inl (G.2.2.1 (sh.2.1 k - 20), sh.2.2.1 k, .inr (.inr (.inr (.inr (fun i => if i < sh.2.2.1 k then some (G.2.1 (sh.2.2.2 k i)) else none)))))
def Wd (sh : Sh) (G : Gx) (σ : St) : va_W := (List.range sh.1).map (fun k => (G.2.1 k, ce sh G σ k))
def tyl (G : Gx) : List (ClassId × FieldType) := [(G.2.2.1 0, .int), (G.2.2.1 1, .boolean), (G.2.2.1 2, .array .int), (G.2.2.1 3, .object "SamovarOpinions$Sheet")]
def AW (sh : Sh) (G : Gx) (sz : Nat) : Nat → Prop := fun q => (∃ k, k < sh.1 ∧ q = G.2.1 k) ∨ sz ≤ q
def Inj (sh : Sh) (G : Gx) : Prop := ∀ i j, i < sh.1 → j < sh.1 → G.2.1 i = G.2.1 j → i = j
def stNm : List (String × List Int32) := [("LEAST", [0, 1, 0, 0, 0, 0, 0]), ("MOST", [99, 99, 999, 9, 7, 1, 5]), ("UNDER", [-1, 0, 0, 1, 2, 0])]
def strO : List (String × Nat × String) := [("SamovarOpinions", 78, "warms 5 + topic ; cools 2 ; screams last < 4 ;"), ("SamovarOpinions$Tape", 55, "topic"), ("SamovarOpinions$Tape", 61, "last"), ("SamovarOpinions$Tape", 63, "warmth"), ("SamovarOpinions$Tape", 65, "number"), ("SamovarOpinions$Tape", 67, "said"), ("SamovarOpinions$Tape", 69, "place"), ("SamovarOpinions$Tape", 71, "warms"), ("SamovarOpinions$Tape", 73, "cools"), ("SamovarOpinions$Tape", 75, "screams"), ("SamovarOpinions$Tape", 77, "or"), ("SamovarOpinions$Tape", 79, "and"), ("SamovarOpinions$Tape", 81, "not")]
def strB : List (List Int32) := [[119, 97, 114, 109, 115, 32, 53, 32, 43, 32, 116, 111, 112, 105, 99, 32, 59, 32, 99, 111, 111, 108, 115, 32, 50, 32, 59, 32, 115, 99, 114, 101, 97, 109, 115, 32, 108, 97, 115, 116, 32, 60, 32, 52, 32, 59], [116, 111, 112, 105, 99], [108, 97, 115, 116], [119, 97, 114, 109, 116, 104], [110, 117, 109, 98, 101, 114], [115, 97, 105, 100], [112, 108, 97, 99, 101], [119, 97, 114, 109, 115], [99, 111, 111, 108, 115], [115, 99, 114, 101, 97, 109, 115], [111, 114], [97, 110, 100], [110, 111, 116]]
def strL : List Nat := [46, 5, 4, 6, 6, 4, 5, 5, 5, 7, 2, 3, 3]
def SX (G : Gx) (A : Nat → Prop) (U : State) (H : Heap) : Prop := (∀ i, i < 3 → va_Z "SamovarOpinions" (stNm.getD i ("", [])).1 "[I" (.ref (G.2.2.2.1 i)) A U H ∧ va_T .int (G.2.2.2.1 i) (stNm.getD i ("", [])).2.length (fun j => .int ((stNm.getD i ("", [])).2.getD j 0)) A U H) ∧ vk_S 13 strL strB G.2.2.2.2.1 G.2.2.2.2.2 A U H ∧ (∀ i, i < 13 → vk_R (strO.getD i ("", 0, "")).1 (strO.getD i ("", 0, "")).2.1 (strO.getD i ("", 0, "")).2.2 (G.2.2.2.2.1 i) U) ∧ (∀ w ∈ nws, va_Nw w U) ∧ va_Z "java/lang/String" "COMPACT_STRINGS" "Z" (.int 1) A U H ∧ va_Zq "jdk/internal/util/Preconditions" "SIOOBE_FORMATTER" "Ljava/util/function/BiFunction;" A U H
theorem SX.warm {G : Gx} {A : Nat → Prop} {s U : State} {H : Heap} (hW : s.WarmedH U.vm) (h : SX G A s H) : SX G A U H :=
  ⟨fun i hi => ⟨va_Z.moved hW.alike (h.1 i hi).1, va_T.moved hW.alike (h.1 i hi).2⟩, vk_S.moved hW.alike h.2.1, fun i hi => (h.2.2.1 i hi).warm hW, fun w hw => nws_warm hw hW (h.2.2.2.1 w hw), va_Z.moved hW.alike h.2.2.2.2.1, va_Zq.moved hW.alike h.2.2.2.2.2⟩
theorem SX.same {G : Gx} {A : Nat → Prop} {u U : State} {H : Heap} (hv : U.vm = u.vm) (h : SX G A u H) : SX G A U H := by
  have ha : u.vm.Alike U.vm := by rw [hv]; exact Vm.Alike.refl _
  exact ⟨fun i hi => ⟨va_Z.moved ha (h.1 i hi).1, va_T.moved ha (h.1 i hi).2⟩, vk_S.moved ha h.2.1, fun i hi => (h.2.2.1 i hi).same hv, fun w hw => nws_same hw hv.symm (h.2.2.2.1 w hw), va_Z.moved ha h.2.2.2.2.1, va_Zq.moved ha h.2.2.2.2.2⟩
theorem SX.kept {G : Gx} {A : Nat → Prop} {U : State} {H H1 : Heap} (h : SX G A U H) (hq : ∀ a : Nat, a < H.size → ¬ A a → H1[a]? = H[a]?) : SX G A U H1 :=
  ⟨fun i hi => ⟨(h.1 i hi).1.kept hq, (h.1 i hi).2.kept hq⟩, h.2.1.kept hq, h.2.2.1, h.2.2.2.1, h.2.2.2.2.1.kept hq, h.2.2.2.2.2.imp (fun z => z.kept hq) (fun ⟨t, z⟩ => ⟨t, z.kept hq⟩)⟩
theorem SX.narrow {G : Gx} {A B : Nat → Prop} {U : State} {H : Heap} (h : SX G A U H) (hAB : ∀ q, B q → A q) : SX G B U H :=
  ⟨fun i hi => ⟨(h.1 i hi).1.narrow hAB, (h.1 i hi).2.narrow hAB⟩, h.2.1.narrow hAB, h.2.2.1, h.2.2.2.1, h.2.2.2.2.1.narrow hAB, h.2.2.2.2.2.imp (fun z => z.narrow hAB) (fun ⟨t, z⟩ => ⟨t, z.narrow hAB⟩)⟩
def Rm (d : Nat) : Room := { frames := d, cells := 0, slots := 0, locals := 60 * d }
def PZ (sh : Sh) (G : Gx) (σ : St) (sz : Nat) (U : State) : Prop := U.heap.size = sz ∧ va_P G.1 vwCl (Wd sh G σ) U.heap ∧ va_K G.1 vwCl (tyl G) U ∧ Inj sh G ∧ SX G (AW sh G sz) U U.heap
def Qz (sh : Sh) (G : Gx) (v : Option Value) (τ : St) (A : Nat → Prop) : Array Value → State → Outcome → State → Prop := fun _ st oc t => oc = .returned v ∧ va_P G.1 vwCl (Wd sh G τ) t.heap ∧ va_F A st t
/-- the contract of a method, over the world of a shape: from the state σ it returns v, and the state is τ -/
def Ct (sh : Sh) (h : Nat) (y : MethodName) (bytes : ByteArray) (maxL : Nat) (rt : Option FieldType) (av : Gx → List Value) (σ : St) (v : Gx → Option Value) (τ : St) : Prop :=
  ∀ (l : Launch) (d : Nat) (G : Gx) (sz : Nat), h ≤ d → Met l y (.code y bytes maxL rt :: wsL_law) (Rm d) (va_Pc (av G) (PZ sh G σ sz)) (Qz sh G (v G) τ (AW sh G sz)) 0 0 (AW sh G sz)
theorem Wd_at {sh : Sh} {G : Gx} {σ : St} {k : Nat} (h : k < sh.1) : (Wd sh G σ)[k]? = some (G.2.1 k, ce sh G σ k) := by
  simp [Wd, h]
theorem Wd_len {sh : Sh} {G : Gx} {σ : St} : (Wd sh G σ).length = sh.1 := by simp [Wd]
theorem Wd_some {sh : Sh} {G : Gx} {σ : St} {k : Nat} {q : Nat × va_E} (h : (Wd sh G σ)[k]? = some q) : k < sh.1 ∧ q = (G.2.1 k, ce sh G σ k) := by
  have h1 : k < sh.1 := by
    have := (List.getElem?_eq_some_iff.mp h).1
    rwa [Wd_len] at this
  rw [Wd_at h1] at h
  exact ⟨h1, (Option.some.inj h).symm⟩
theorem Wd_D {sh : Sh} {G : Gx} {σ : St} {sz : Nat} (hi : Inj sh G) : va_D (AW sh G sz) (Wd sh G σ) := by
  refine ⟨fun i j p q h1 h2 e => ?_, fun k q h => ?_⟩
  · obtain ⟨a1, rfl⟩ := Wd_some h1
    obtain ⟨a2, rfl⟩ := Wd_some h2
    exact hi i j a1 a2 e
  · obtain ⟨a1, rfl⟩ := Wd_some h
    exact Or.inl ⟨k, a1, rfl⟩
theorem Wd_set {sh : Sh} {G : Gx} {σ τ : St} {k : Nat} {E : va_E} (hk : k < sh.1) (hE : ce sh G τ k = E) (hne : ∀ i, i ≠ k → ce sh G τ i = ce sh G σ i) : (Wd sh G σ).set k (G.2.1 k, E) = Wd sh G τ := by
  subst hE
  apply List.ext_getElem?
  intro i
  by_cases hi : i = k
  · subst hi
    rw [List.getElem?_set_self (by rw [Wd_len]; exact hk), Wd_at hk]
  · rw [List.getElem?_set_ne (Ne.symm hi)]
    by_cases hl : i < sh.1
    · rw [Wd_at hl, Wd_at hl, hne i hi]
    · rw [List.getElem?_eq_none (by rw [Wd_len]; omega), List.getElem?_eq_none (by rw [Wd_len]; omega)]
theorem fk_long {ci j : Nat} (h : ci ≠ 10) : fk ci j ≠ 1 := by
  intro h1
  have h2 : ∀ ci, ci < 11 → ci ≠ 10 → ∀ j, j < 60 → fk ci j ≠ 1 := by decide +kernel
  by_cases hc : ci < 11
  · by_cases hj : j < 60
    · exact h2 ci hc h j hj h1
    · have h3 : ∀ ci, ci < 11 → (([[2, 2, 0, 0, 0, 0, 0], [2, 2, 2, 2, 2, 2, 2, 2, 0, 0], [2, 2], [2, 2, 2, 2, 0, 0, 0], [0, 0, 0, 0, 0, 0, 0, 0, 0], [0, 0, 0, 0, 0, 0, 2, 2, 2, 2], [2, 0, 0], [2, 0, 0, 0, 0], [2, 2, 2, 2, 2, 0], [2, 2, 0, 2, 2, 2, 2, 2, 2, 2], [0, 2, 2, 0, 0, 2, 0, 2, 0, 2, 2, 0, 0, 0, 0, 0, 0, 0, 0, 0, 0, 0, 0, 1, 0, 0, 0, 2, 2, 2, 2, 0, 0, 0, 0, 0, 0, 2, 2, 2, 2, 0, 0, 0, 2, 2, 2, 2]] : List (List Nat)).getD ci []).length ≤ 60 := by decide +kernel
      have h4 := h3 ci hc
      unfold fk at h1
      rw [List.getD_eq_default _ _ (by omega)] at h1
      exact absurd h1 (by decide)
  · unfold fk at h1
    rw [List.getD_eq_default _ _ (show ([[2, 2, 0, 0, 0, 0, 0], [2, 2, 2, 2, 2, 2, 2, 2, 0, 0], [2, 2], [2, 2, 2, 2, 0, 0, 0], [0, 0, 0, 0, 0, 0, 0, 0, 0], [0, 0, 0, 0, 0, 0, 2, 2, 2, 2], [2, 0, 0], [2, 0, 0, 0, 0], [2, 2, 2, 2, 2, 0], [2, 2, 0, 2, 2, 2, 2, 2, 2, 2], [0, 2, 2, 0, 0, 2, 0, 2, 0, 2, 2, 0, 0, 0, 0, 0, 0, 0, 0, 0, 0, 0, 0, 1, 0, 0, 0, 2, 2, 2, 2, 0, 0, 0, 0, 0, 0, 2, 2, 2, 2, 0, 0, 0, 2, 2, 2, 2]] : List (List Nat)).length ≤ ci from by simp; omega)] at h1
    exact absurd h1 (by simp)
theorem ce_same {sh : Sh} {G : Gx} {σ τ : St} {i : Nat} (h1 : τ.1 i = σ.1 i) (h2 : τ.2 = σ.2 ∨ sh.2.1 i ≠ 10) : ce sh G τ i = ce sh G σ i := by
  have hf : fv sh G τ i = fv sh G σ i := by
    funext j
    unfold fv
    rw [h1]
    rcases h2 with h | h
    · rw [h]
    · by_cases a : fk (sh.2.1 i) j = 0
      · rw [if_pos a, if_pos a]
      · rw [if_neg a, if_neg a]
        by_cases b : fk (sh.2.1 i) j = 1
        · exact absurd b (fk_long h)
        · rw [if_neg b, if_neg b]
  unfold ce fl
  rw [hf, h1]
theorem up_ne {σ : St} {k j i : Nat} {v : Int32} (h : i ≠ k) : (up σ k j v).1 i = σ.1 i := by
  funext b
  simp [up, h]
theorem upA_ne {σ : St} {k i : Nat} {f : Nat → Int32} (h : i ≠ k) : (upA σ k f).1 i = σ.1 i := by
  funext b
  simp [upA, h]
theorem up_at {σ : St} {k j : Nat} {v : Int32} : (up σ k j v).1 k = upd (σ.1 k) j v := by
  funext b
  simp [up, upd]
theorem fl_len {sh : Sh} {G : Gx} {σ : St} {k : Nat} : (fl sh G σ k).length = sh.2.2.1 k := by simp [fl]
theorem fl_at {sh : Sh} {G : Gx} {σ : St} {k j : Nat} (h : j < sh.2.2.1 k) : (fl sh G σ k)[j]? = some (fv sh G σ k j) := by simp [fl, h]
theorem fl_set {sh : Sh} {G : Gx} {σ τ : St} {k j : Nat} {v : Value} (hj : j < sh.2.2.1 k) (hv : fv sh G τ k j = v) (hne : ∀ i, i ≠ j → fv sh G τ k i = fv sh G σ k i) : (fl sh G σ k).set j v = fl sh G τ k := by
  subst hv
  apply List.ext_getElem?
  intro i
  by_cases hi : i = j
  · subst hi
    rw [List.getElem?_set_self (by rw [fl_len]; exact hj), fl_at hj]
  · rw [List.getElem?_set_ne (Ne.symm hi)]
    by_cases hl : i < sh.2.2.1 k
    · rw [fl_at hl, fl_at hl, hne i hi]
    · rw [List.getElem?_eq_none (by rw [fl_len]; omega), List.getElem?_eq_none (by rw [fl_len]; omega)]
abbrev OK (sh : Sh) (G : Gx) (p : Program) (s : State) (m : MethodId) (args : Array Value) (meth : Method) (c : Code) (own : String) (cc : ByteArray) (nL : Nat) (ret : Option FieldType) (A : Nat → Prop) : Prop :=
  p.tables.exec = Jvm.exec ∧ c.code = cc ∧ c.maxLocals = nL ∧ s.vm.findClass own = some m.cls ∧ (∀ w ∈ wsL_law, w.before args s = true) ∧ meth.locks = false ∧ meth.sig.returnType = ret ∧ va_K G.1 vwCl (tyl G) s ∧ Inj sh G ∧ SX G A s s.heap ∧ A = AW sh G s.heap.size
def Vw (sh : Sh) (G : Gx) (p : Program) (l : Launch) (e : Env) (d : Nat) (s : State) (m : MethodId) (args : Array Value) (below : List Frame) (meth : Method) (c : Code) (nL : Nat) (A : Nat → Prop) (σ : St) (pc : Nat) (lv : List (Nat × Value)) (st : List Value) (v : Option Value) (τ : St) : Prop :=
  ∀ (H : Heap) (locs : List Loc) (ls : Array Slot), va_P G.1 vwCl (Wd sh G σ) H → va_S A s.heap H locs → lv_has ls nL lv → W p l e (Rm d) s m args below meth c H locs 0 0 (MQ below (Qz sh G v τ A) args s 0 0 A) (F0 m pc ls st)
section VROWS
variable {sh : Sh} {G : Gx} {p : Program} {l : Launch} {e : Env} {d : Nat} {s : State} {m : MethodId} {args : Array Value} {below : List Frame} {meth : Method} {c : Code} {own : String} {cc : ByteArray} {nL : Nat} {ret : Option FieldType} {A : Nat → Prop} {σ τ : St} {pc : Nat} {lv lv' : List (Nat × Value)} {st : List Value} {v : Option Value}
theorem V_aload_n (C : OK sh G p s m args meth c own cc nL ret A) {k : Fin 4} {i : Nat} {x : Nat} (q : Nat) (hdg : decode cc pc = .ok (.aload_n k, 1)) (hi : (k : Nat) = i) (hl0 : lv[q]? = some (i, .ref x)) (k9 : Vw sh G p l e d s m args below meth c nL A σ (pc + 1) lv (.ref x :: st) v τ) : Vw sh G p l e d s m args below meth c nL A σ pc lv st v τ := fun H locs ls hP hS hl => lv_aload_n C.1 C.2.1 hdg hi (lv_at hl q hl0) (k9 H locs ls hP hS hl)
theorem V_aload (C : OK sh G p s m args meth c own cc nL ret A) {i : Nat} {x : Nat} (q : Nat) (hdg : decode cc pc = .ok (.aload i, 2)) (hl0 : lv[q]? = some (i, .ref x)) (k9 : Vw sh G p l e d s m args below meth c nL A σ (pc + 2) lv (.ref x :: st) v τ) : Vw sh G p l e d s m args below meth c nL A σ pc lv st v τ := fun H locs ls hP hS hl => lv_aload C.1 C.2.1 hdg (lv_at hl q hl0) (k9 H locs ls hP hS hl)
theorem V_iload_n (C : OK sh G p s m args meth c own cc nL ret A) {k : Fin 4} {i : Nat} {x : Int32} (q : Nat) (hdg : decode cc pc = .ok (.iload_n k, 1)) (hi : (k : Nat) = i) (hl0 : lv[q]? = some (i, .int x)) (k9 : Vw sh G p l e d s m args below meth c nL A σ (pc + 1) lv (.int x :: st) v τ) : Vw sh G p l e d s m args below meth c nL A σ pc lv st v τ := fun H locs ls hP hS hl => lv_iload_n C.1 C.2.1 hdg hi (lv_at hl q hl0) (k9 H locs ls hP hS hl)
theorem V_iload (C : OK sh G p s m args meth c own cc nL ret A) {i : Nat} {x : Int32} (q : Nat) (hdg : decode cc pc = .ok (.iload i, 2)) (hl0 : lv[q]? = some (i, .int x)) (k9 : Vw sh G p l e d s m args below meth c nL A σ (pc + 2) lv (.int x :: st) v τ) : Vw sh G p l e d s m args below meth c nL A σ pc lv st v τ := fun H locs ls hP hS hl => lv_iload C.1 C.2.1 hdg (lv_at hl q hl0) (k9 H locs ls hP hS hl)
theorem V_lload_n (C : OK sh G p s m args meth c own cc nL ret A) {k : Fin 4} {i : Nat} {x : Int64} (q : Nat) (hdg : decode cc pc = .ok (.lload_n k, 1)) (hi : (k : Nat) = i) (hl0 : lv[q]? = some (i, .long x)) (k9 : Vw sh G p l e d s m args below meth c nL A σ (pc + 1) lv (.long x :: st) v τ) : Vw sh G p l e d s m args below meth c nL A σ pc lv st v τ := fun H locs ls hP hS hl => lv_lload_n C.1 C.2.1 hdg hi (lv_at hl q hl0) (k9 H locs ls hP hS hl)
theorem V_lload (C : OK sh G p s m args meth c own cc nL ret A) {i : Nat} {x : Int64} (q : Nat) (hdg : decode cc pc = .ok (.lload i, 2)) (hl0 : lv[q]? = some (i, .long x)) (k9 : Vw sh G p l e d s m args below meth c nL A σ (pc + 2) lv (.long x :: st) v τ) : Vw sh G p l e d s m args below meth c nL A σ pc lv st v τ := fun H locs ls hP hS hl => lv_lload C.1 C.2.1 hdg (lv_at hl q hl0) (k9 H locs ls hP hS hl)
theorem V_aload_nN (C : OK sh G p s m args meth c own cc nL ret A) {k : Fin 4} {i : Nat} (q : Nat) (hdg : decode cc pc = .ok (.aload_n k, 1)) (hi : (k : Nat) = i) (hl0 : lv[q]? = some (i, .null)) (k9 : Vw sh G p l e d s m args below meth c nL A σ (pc + 1) lv (.null :: st) v τ) : Vw sh G p l e d s m args below meth c nL A σ pc lv st v τ := fun H locs ls hP hS hl => lv_aload_nN C.1 C.2.1 hdg hi (lv_at hl q hl0) (k9 H locs ls hP hS hl)
theorem V_aloadN (C : OK sh G p s m args meth c own cc nL ret A) {i : Nat} (q : Nat) (hdg : decode cc pc = .ok (.aload i, 2)) (hl0 : lv[q]? = some (i, .null)) (k9 : Vw sh G p l e d s m args below meth c nL A σ (pc + 2) lv (.null :: st) v τ) : Vw sh G p l e d s m args below meth c nL A σ pc lv st v τ := fun H locs ls hP hS hl => lv_aloadN C.1 C.2.1 hdg (lv_at hl q hl0) (k9 H locs ls hP hS hl)
theorem V_astore_n (C : OK sh G p s m args meth c own cc nL ret A) {k : Fin 4} {i : Nat} {x : Nat} (hdg : decode cc pc = .ok (.astore_n k, 1)) (hi : (k : Nat) = i) (hn : i < nL) (hl0 : (i, (.ref x : Value)) :: lv.filter (fun q => !(q.1 == i) && !(q.1 + 1 == i && q.2.category == 2)) = lv') (k9 : Vw sh G p l e d s m args below meth c nL A σ (pc + 1) lv' st v τ) : Vw sh G p l e d s m args below meth c nL A σ pc lv (.ref x :: st) v τ := fun H locs ls hP hS hl => lv_astore_n C.1 C.2.1 hdg hi hl hn hl0 (fun ls' hl' => k9 H locs ls' hP hS hl')
theorem V_astore (C : OK sh G p s m args meth c own cc nL ret A) {i : Nat} {x : Nat} (hdg : decode cc pc = .ok (.astore i, 2)) (hn : i < nL) (hl0 : (i, (.ref x : Value)) :: lv.filter (fun q => !(q.1 == i) && !(q.1 + 1 == i && q.2.category == 2)) = lv') (k9 : Vw sh G p l e d s m args below meth c nL A σ (pc + 2) lv' st v τ) : Vw sh G p l e d s m args below meth c nL A σ pc lv (.ref x :: st) v τ := fun H locs ls hP hS hl => lv_astore C.1 C.2.1 hdg hl hn hl0 (fun ls' hl' => k9 H locs ls' hP hS hl')
theorem V_istore_n (C : OK sh G p s m args meth c own cc nL ret A) {k : Fin 4} {i : Nat} {x : Int32} (hdg : decode cc pc = .ok (.istore_n k, 1)) (hi : (k : Nat) = i) (hn : i < nL) (hl0 : (i, (.int x : Value)) :: lv.filter (fun q => !(q.1 == i) && !(q.1 + 1 == i && q.2.category == 2)) = lv') (k9 : Vw sh G p l e d s m args below meth c nL A σ (pc + 1) lv' st v τ) : Vw sh G p l e d s m args below meth c nL A σ pc lv (.int x :: st) v τ := fun H locs ls hP hS hl => lv_istore_n C.1 C.2.1 hdg hi hl hn hl0 (fun ls' hl' => k9 H locs ls' hP hS hl')
theorem V_istore (C : OK sh G p s m args meth c own cc nL ret A) {i : Nat} {x : Int32} (hdg : decode cc pc = .ok (.istore i, 2)) (hn : i < nL) (hl0 : (i, (.int x : Value)) :: lv.filter (fun q => !(q.1 == i) && !(q.1 + 1 == i && q.2.category == 2)) = lv') (k9 : Vw sh G p l e d s m args below meth c nL A σ (pc + 2) lv' st v τ) : Vw sh G p l e d s m args below meth c nL A σ pc lv (.int x :: st) v τ := fun H locs ls hP hS hl => lv_istore C.1 C.2.1 hdg hl hn hl0 (fun ls' hl' => k9 H locs ls' hP hS hl')
theorem V_lstore_n (C : OK sh G p s m args meth c own cc nL ret A) {k : Fin 4} {i : Nat} {x : Int64} (hdg : decode cc pc = .ok (.lstore_n k, 1)) (hi : (k : Nat) = i) (hn : i + 1 < nL) (hl0 : (i, (.long x : Value)) :: lv.filter (fun q => !(q.1 == i) && (!(q.1 == i + 1) && !(q.1 + 1 == i && q.2.category == 2))) = lv') (k9 : Vw sh G p l e d s m args below meth c nL A σ (pc + 1) lv' st v τ) : Vw sh G p l e d s m args below meth c nL A σ pc lv (.long x :: st) v τ := fun H locs ls hP hS hl => lv_lstore_n C.1 C.2.1 hdg hi hl hn hl0 (fun ls' hl' => k9 H locs ls' hP hS hl')
theorem V_lstore (C : OK sh G p s m args meth c own cc nL ret A) {i : Nat} {x : Int64} (hdg : decode cc pc = .ok (.lstore i, 2)) (hn : i + 1 < nL) (hl0 : (i, (.long x : Value)) :: lv.filter (fun q => !(q.1 == i) && (!(q.1 == i + 1) && !(q.1 + 1 == i && q.2.category == 2))) = lv') (k9 : Vw sh G p l e d s m args below meth c nL A σ (pc + 2) lv' st v τ) : Vw sh G p l e d s m args below meth c nL A σ pc lv (.long x :: st) v τ := fun H locs ls hP hS hl => lv_lstore C.1 C.2.1 hdg hl hn hl0 (fun ls' hl' => k9 H locs ls' hP hS hl')
theorem V_astore_nN (C : OK sh G p s m args meth c own cc nL ret A) {k : Fin 4} {i : Nat}  (hdg : decode cc pc = .ok (.astore_n k, 1)) (hi : (k : Nat) = i) (hn : i < nL) (hl0 : (i, (.null : Value)) :: lv.filter (fun q => !(q.1 == i) && !(q.1 + 1 == i && q.2.category == 2)) = lv') (k9 : Vw sh G p l e d s m args below meth c nL A σ (pc + 1) lv' st v τ) : Vw sh G p l e d s m args below meth c nL A σ pc lv (.null :: st) v τ := fun H locs ls hP hS hl => lv_astore_nN C.1 C.2.1 hdg hi hl hn hl0 (fun ls' hl' => k9 H locs ls' hP hS hl')
theorem V_astoreN (C : OK sh G p s m args meth c own cc nL ret A) {i : Nat}  (hdg : decode cc pc = .ok (.astore i, 2)) (hn : i < nL) (hl0 : (i, (.null : Value)) :: lv.filter (fun q => !(q.1 == i) && !(q.1 + 1 == i && q.2.category == 2)) = lv') (k9 : Vw sh G p l e d s m args below meth c nL A σ (pc + 2) lv' st v τ) : Vw sh G p l e d s m args below meth c nL A σ pc lv (.null :: st) v τ := fun H locs ls hP hS hl => lv_astoreN C.1 C.2.1 hdg hl hn hl0 (fun ls' hl' => k9 H locs ls' hP hS hl')
theorem V_iinc (C : OK sh G p s m args meth c own cc nL ret A) {i : Nat} {n : Int} {x w : Int32} (q : Nat) (hdg : decode cc pc = .ok (.iinc i n, 3)) (hk : lv[q]? = some (i, .int x)) (hv : x + Int32.ofInt n = w) (hn : i < nL) (hl0 : (i, (.int w : Value)) :: lv.filter (fun q => !(q.1 == i) && !(q.1 + 1 == i && q.2.category == 2)) = lv') (k9 : Vw sh G p l e d s m args below meth c nL A σ (pc + 3) lv' st v τ) : Vw sh G p l e d s m args below meth c nL A σ pc lv st v τ := fun H locs ls hP hS hl => lv_iinc (k := q) C.1 C.2.1 hdg hl hk hv hn hl0 (fun ls' hl' => k9 H locs ls' hP hS hl')
theorem V_iconst (C : OK sh G p s m args meth c own cc nL ret A) {n : Int} {w : Int32} (hdg : decode cc pc = .ok (.iconst n, 1)) (hv : Int32.ofInt n = w) (k : Vw sh G p l e d s m args below meth c nL A σ (pc + 1) lv (.int w :: st) v τ) : Vw sh G p l e d s m args below meth c nL A σ pc lv (st) v τ := fun H locs ls hP hS hl => lv_iconst C.1 C.2.1 hdg hv (k H locs ls hP hS hl)
theorem V_bipush (C : OK sh G p s m args meth c own cc nL ret A) {n : Int} {w : Int32} (hdg : decode cc pc = .ok (.bipush n, 2)) (hv : (Int8.ofInt n).toInt32 = w) (k : Vw sh G p l e d s m args below meth c nL A σ (pc + 2) lv (.int w :: st) v τ) : Vw sh G p l e d s m args below meth c nL A σ pc lv (st) v τ := fun H locs ls hP hS hl => lv_bipush C.1 C.2.1 hdg hv (k H locs ls hP hS hl)
theorem V_sipush (C : OK sh G p s m args meth c own cc nL ret A) {n : Int} {w : Int32} (hdg : decode cc pc = .ok (.sipush n, 3)) (hv : (Int16.ofInt n).toInt32 = w) (k : Vw sh G p l e d s m args below meth c nL A σ (pc + 3) lv (.int w :: st) v τ) : Vw sh G p l e d s m args below meth c nL A σ pc lv (st) v τ := fun H locs ls hP hS hl => lv_sipush C.1 C.2.1 hdg hv (k H locs ls hP hS hl)
theorem V_lconst (C : OK sh G p s m args meth c own cc nL ret A) {n : Fin 2} {w : Int64} (hdg : decode cc pc = .ok (.lconst n, 1)) (hv : Int64.ofNat (n : Nat) = w) (k : Vw sh G p l e d s m args below meth c nL A σ (pc + 1) lv (.long w :: st) v τ) : Vw sh G p l e d s m args below meth c nL A σ pc lv (st) v τ := fun H locs ls hP hS hl => lv_lconst C.1 C.2.1 hdg hv (k H locs ls hP hS hl)
theorem V_null (C : OK sh G p s m args meth c own cc nL ret A)  (hdg : decode cc pc = .ok (.aconst_null, 1)) (k : Vw sh G p l e d s m args below meth c nL A σ (pc + 1) lv (.null :: st) v τ) : Vw sh G p l e d s m args below meth c nL A σ pc lv (st) v τ := fun H locs ls hP hS hl => lv_null C.1 C.2.1 hdg  (k H locs ls hP hS hl)
theorem V_iadd (C : OK sh G p s m args meth c own cc nL ret A) {x y : Int32} (hdg : decode cc pc = .ok (.iadd, 1)) (k : Vw sh G p l e d s m args below meth c nL A σ (pc + 1) lv (.int (x + y) :: st) v τ) : Vw sh G p l e d s m args below meth c nL A σ pc lv (.int y :: .int x :: st) v τ := fun H locs ls hP hS hl => lv_iadd C.1 C.2.1 hdg  (k H locs ls hP hS hl)
theorem V_isub (C : OK sh G p s m args meth c own cc nL ret A) {x y : Int32} (hdg : decode cc pc = .ok (.isub, 1)) (k : Vw sh G p l e d s m args below meth c nL A σ (pc + 1) lv (.int (x - y) :: st) v τ) : Vw sh G p l e d s m args below meth c nL A σ pc lv (.int y :: .int x :: st) v τ := fun H locs ls hP hS hl => lv_isub C.1 C.2.1 hdg  (k H locs ls hP hS hl)
theorem V_imul (C : OK sh G p s m args meth c own cc nL ret A) {x y : Int32} (hdg : decode cc pc = .ok (.imul, 1)) (k : Vw sh G p l e d s m args below meth c nL A σ (pc + 1) lv (.int (x * y) :: st) v τ) : Vw sh G p l e d s m args below meth c nL A σ pc lv (.int y :: .int x :: st) v τ := fun H locs ls hP hS hl => lv_imul C.1 C.2.1 hdg  (k H locs ls hP hS hl)
theorem V_iand (C : OK sh G p s m args meth c own cc nL ret A) {x y : Int32} (hdg : decode cc pc = .ok (.iand, 1)) (k : Vw sh G p l e d s m args below meth c nL A σ (pc + 1) lv (.int (x &&& y) :: st) v τ) : Vw sh G p l e d s m args below meth c nL A σ pc lv (.int y :: .int x :: st) v τ := fun H locs ls hP hS hl => lv_iand C.1 C.2.1 hdg  (k H locs ls hP hS hl)
theorem V_ior (C : OK sh G p s m args meth c own cc nL ret A) {x y : Int32} (hdg : decode cc pc = .ok (.ior, 1)) (k : Vw sh G p l e d s m args below meth c nL A σ (pc + 1) lv (.int (x ||| y) :: st) v τ) : Vw sh G p l e d s m args below meth c nL A σ pc lv (.int y :: .int x :: st) v τ := fun H locs ls hP hS hl => lv_ior C.1 C.2.1 hdg  (k H locs ls hP hS hl)
theorem V_ixor (C : OK sh G p s m args meth c own cc nL ret A) {x y : Int32} (hdg : decode cc pc = .ok (.ixor, 1)) (k : Vw sh G p l e d s m args below meth c nL A σ (pc + 1) lv (.int (x ^^^ y) :: st) v τ) : Vw sh G p l e d s m args below meth c nL A σ pc lv (.int y :: .int x :: st) v τ := fun H locs ls hP hS hl => lv_ixor C.1 C.2.1 hdg  (k H locs ls hP hS hl)
theorem V_ishl (C : OK sh G p s m args meth c own cc nL ret A) {x y : Int32} (hdg : decode cc pc = .ok (.ishl, 1)) (k : Vw sh G p l e d s m args below meth c nL A σ (pc + 1) lv (.int (x <<< (y &&& 31)) :: st) v τ) : Vw sh G p l e d s m args below meth c nL A σ pc lv (.int y :: .int x :: st) v τ := fun H locs ls hP hS hl => lv_ishl C.1 C.2.1 hdg  (k H locs ls hP hS hl)
theorem V_ishr (C : OK sh G p s m args meth c own cc nL ret A) {x y : Int32} (hdg : decode cc pc = .ok (.ishr, 1)) (k : Vw sh G p l e d s m args below meth c nL A σ (pc + 1) lv (.int (x >>> (y &&& 31)) :: st) v τ) : Vw sh G p l e d s m args below meth c nL A σ pc lv (.int y :: .int x :: st) v τ := fun H locs ls hP hS hl => lv_ishr C.1 C.2.1 hdg  (k H locs ls hP hS hl)
theorem V_idiv (C : OK sh G p s m args meth c own cc nL ret A) {x y : Int32} (hdg : decode cc pc = .ok (.idiv, 1)) (hne : ¬ y = 0) (k : Vw sh G p l e d s m args below meth c nL A σ (pc + 1) lv (.int (x / y) :: st) v τ) : Vw sh G p l e d s m args below meth c nL A σ pc lv (.int y :: .int x :: st) v τ := fun H locs ls hP hS hl => lv_idiv C.1 C.2.1 hdg hne (k H locs ls hP hS hl)
theorem V_irem (C : OK sh G p s m args meth c own cc nL ret A) {x y : Int32} (hdg : decode cc pc = .ok (.irem, 1)) (hne : ¬ y = 0) (k : Vw sh G p l e d s m args below meth c nL A σ (pc + 1) lv (.int (x - x / y * y) :: st) v τ) : Vw sh G p l e d s m args below meth c nL A σ pc lv (.int y :: .int x :: st) v τ := fun H locs ls hP hS hl => lv_irem C.1 C.2.1 hdg hne (k H locs ls hP hS hl)
theorem V_iushr (C : OK sh G p s m args meth c own cc nL ret A) {x y w : Int32} (hdg : decode cc pc = .ok (.iushr, 1)) (hv : (x.toUInt32 >>> (y.toUInt32 &&& Int32.toUInt32 31)).toInt32 = w) (k : Vw sh G p l e d s m args below meth c nL A σ (pc + 1) lv (.int w :: st) v τ) : Vw sh G p l e d s m args below meth c nL A σ pc lv (.int y :: .int x :: st) v τ := fun H locs ls hP hS hl => lv_iushr C.1 C.2.1 hdg hv (k H locs ls hP hS hl)
theorem V_ineg (C : OK sh G p s m args meth c own cc nL ret A) {x : Int32} (hdg : decode cc pc = .ok (.ineg, 1)) (k : Vw sh G p l e d s m args below meth c nL A σ (pc + 1) lv (.int (-x) :: st) v τ) : Vw sh G p l e d s m args below meth c nL A σ pc lv (.int x :: st) v τ := fun H locs ls hP hS hl => lv_ineg C.1 C.2.1 hdg  (k H locs ls hP hS hl)
theorem V_ladd (C : OK sh G p s m args meth c own cc nL ret A) {x y : Int64} (hdg : decode cc pc = .ok (.ladd, 1)) (k : Vw sh G p l e d s m args below meth c nL A σ (pc + 1) lv (.long (x + y) :: st) v τ) : Vw sh G p l e d s m args below meth c nL A σ pc lv (.long y :: .long x :: st) v τ := fun H locs ls hP hS hl => lv_ladd C.1 C.2.1 hdg  (k H locs ls hP hS hl)
theorem V_lsub (C : OK sh G p s m args meth c own cc nL ret A) {x y : Int64} (hdg : decode cc pc = .ok (.lsub, 1)) (k : Vw sh G p l e d s m args below meth c nL A σ (pc + 1) lv (.long (x - y) :: st) v τ) : Vw sh G p l e d s m args below meth c nL A σ pc lv (.long y :: .long x :: st) v τ := fun H locs ls hP hS hl => lv_lsub C.1 C.2.1 hdg  (k H locs ls hP hS hl)
theorem V_lmul (C : OK sh G p s m args meth c own cc nL ret A) {x y : Int64} (hdg : decode cc pc = .ok (.lmul, 1)) (k : Vw sh G p l e d s m args below meth c nL A σ (pc + 1) lv (.long (x * y) :: st) v τ) : Vw sh G p l e d s m args below meth c nL A σ pc lv (.long y :: .long x :: st) v τ := fun H locs ls hP hS hl => lv_lmul C.1 C.2.1 hdg  (k H locs ls hP hS hl)
theorem V_ldiv (C : OK sh G p s m args meth c own cc nL ret A) {x y : Int64} (hdg : decode cc pc = .ok (.ldiv, 1)) (hne : ¬ y = 0) (k : Vw sh G p l e d s m args below meth c nL A σ (pc + 1) lv (.long (x / y) :: st) v τ) : Vw sh G p l e d s m args below meth c nL A σ pc lv (.long y :: .long x :: st) v τ := fun H locs ls hP hS hl => lv_ldiv C.1 C.2.1 hdg hne (k H locs ls hP hS hl)
theorem V_lrem (C : OK sh G p s m args meth c own cc nL ret A) {x y : Int64} (hdg : decode cc pc = .ok (.lrem, 1)) (hne : ¬ y = 0) (k : Vw sh G p l e d s m args below meth c nL A σ (pc + 1) lv (.long (x - x / y * y) :: st) v τ) : Vw sh G p l e d s m args below meth c nL A σ pc lv (.long y :: .long x :: st) v τ := fun H locs ls hP hS hl => lv_lrem C.1 C.2.1 hdg hne (k H locs ls hP hS hl)
theorem V_lcmp (C : OK sh G p s m args meth c own cc nL ret A) {x y : Int64} (hdg : decode cc pc = .ok (.lcmp, 1)) (k : Vw sh G p l e d s m args below meth c nL A σ (pc + 1) lv (.int (lg_cmp x y) :: st) v τ) : Vw sh G p l e d s m args below meth c nL A σ pc lv (.long y :: .long x :: st) v τ := fun H locs ls hP hS hl => W.lcmp C.1 C.2.1 hdg  (k H locs ls hP hS hl)
theorem V_i2l (C : OK sh G p s m args meth c own cc nL ret A) {x : Int32} (hdg : decode cc pc = .ok (.i2l, 1)) (k : Vw sh G p l e d s m args below meth c nL A σ (pc + 1) lv (.long x.toInt64 :: st) v τ) : Vw sh G p l e d s m args below meth c nL A σ pc lv (.int x :: st) v τ := fun H locs ls hP hS hl => lv_i2l C.1 C.2.1 hdg rfl (k H locs ls hP hS hl)
theorem V_l2i (C : OK sh G p s m args meth c own cc nL ret A) {x : Int64} (hdg : decode cc pc = .ok (.l2i, 1)) (k : Vw sh G p l e d s m args below meth c nL A σ (pc + 1) lv (.int x.toInt32 :: st) v τ) : Vw sh G p l e d s m args below meth c nL A σ pc lv (.long x :: st) v τ := fun H locs ls hP hS hl => lv_l2i C.1 C.2.1 hdg rfl (k H locs ls hP hS hl)
theorem V_i2b (C : OK sh G p s m args meth c own cc nL ret A) {x : Int32} (hdg : decode cc pc = .ok (.i2b, 1)) (k : Vw sh G p l e d s m args below meth c nL A σ (pc + 1) lv (.int x.toInt8.toInt32 :: st) v τ) : Vw sh G p l e d s m args below meth c nL A σ pc lv (.int x :: st) v τ := fun H locs ls hP hS hl => lv_i2b C.1 C.2.1 hdg rfl (k H locs ls hP hS hl)
theorem V_i2s (C : OK sh G p s m args meth c own cc nL ret A) {x : Int32} (hdg : decode cc pc = .ok (.i2s, 1)) (k : Vw sh G p l e d s m args below meth c nL A σ (pc + 1) lv (.int x.toInt16.toInt32 :: st) v τ) : Vw sh G p l e d s m args below meth c nL A σ pc lv (.int x :: st) v τ := fun H locs ls hP hS hl => lv_i2s C.1 C.2.1 hdg rfl (k H locs ls hP hS hl)
theorem V_dup (C : OK sh G p s m args meth c own cc nL ret A) {va : Value} (hdg : decode cc pc = .ok (.dup, 1)) (h1 : va.category = 1) (k : Vw sh G p l e d s m args below meth c nL A σ (pc + 1) lv (va :: va :: st) v τ) : Vw sh G p l e d s m args below meth c nL A σ pc lv (va :: st) v τ := fun H locs ls hP hS hl => lv_dup C.1 C.2.1 hdg h1 (k H locs ls hP hS hl)
theorem V_pop (C : OK sh G p s m args meth c own cc nL ret A) {va : Value} (hdg : decode cc pc = .ok (.pop, 1)) (h1 : va.category = 1) (k : Vw sh G p l e d s m args below meth c nL A σ (pc + 1) lv (st) v τ) : Vw sh G p l e d s m args below meth c nL A σ pc lv (va :: st) v τ := fun H locs ls hP hS hl => lv_pop C.1 C.2.1 hdg h1 (k H locs ls hP hS hl)
theorem V_dup_x1 (C : OK sh G p s m args meth c own cc nL ret A) {va vb : Value} (hdg : decode cc pc = .ok (.dup_x1, 1)) (h1 : va.category = 1) (h2 : vb.category = 1) (k : Vw sh G p l e d s m args below meth c nL A σ (pc + 1) lv (va :: vb :: va :: st) v τ) : Vw sh G p l e d s m args below meth c nL A σ pc lv (va :: vb :: st) v τ := fun H locs ls hP hS hl => lv_dup_x1 C.1 C.2.1 hdg h1 h2 (k H locs ls hP hS hl)
theorem V_dup2 (C : OK sh G p s m args meth c own cc nL ret A) {va vb : Value} (hdg : decode cc pc = .ok (.dup2, 1)) (h1 : va.category = 1) (h2 : vb.category = 1) (k : Vw sh G p l e d s m args below meth c nL A σ (pc + 1) lv (va :: vb :: va :: vb :: st) v τ) : Vw sh G p l e d s m args below meth c nL A σ pc lv (va :: vb :: st) v τ := fun H locs ls hP hS hl => lv_dup2_11 C.1 C.2.1 hdg h1 h2 (k H locs ls hP hS hl)
theorem V_goto (C : OK sh G p s m args meth c own cc nL ret A) {off : Int} (tgt : Nat) (hdg : decode cc pc = .ok (.goto off, 3)) (ht : (pc : Int) + off = (tgt : Int)) (k : Vw sh G p l e d s m args below meth c nL A σ tgt lv st v τ) : Vw sh G p l e d s m args below meth c nL A σ pc lv st v τ := fun H locs ls hP hS hl => lv_goto C.1 C.2.1 hdg ht (k H locs ls hP hS hl)
theorem V_if_eqT (C : OK sh G p s m args meth c own cc nL ret A) {x : Int32} {off : Int} (tgt : Nat) (hdg : decode cc pc = .ok (.ifCond .eq off, 3)) (ht : (pc : Int) + off = (tgt : Int)) (hc : x = 0) (k : Vw sh G p l e d s m args below meth c nL A σ tgt lv st v τ) : Vw sh G p l e d s m args below meth c nL A σ pc lv (.int x :: st) v τ := fun H locs ls hP hS hl => lv_if_eq C.1 C.2.1 hdg ht (fun _ => (k H locs ls hP hS hl)) (fun h => absurd hc (by simpa using h))
theorem V_if_eqF (C : OK sh G p s m args meth c own cc nL ret A) {x : Int32} {off : Int} (tgt : Nat) (hdg : decode cc pc = .ok (.ifCond .eq off, 3)) (ht : (pc : Int) + off = (tgt : Int)) (hc : ¬ x = 0) (k : Vw sh G p l e d s m args below meth c nL A σ (pc + 3) lv st v τ) : Vw sh G p l e d s m args below meth c nL A σ pc lv (.int x :: st) v τ := fun H locs ls hP hS hl => lv_if_eq C.1 C.2.1 hdg ht (fun h => absurd h hc) (fun _ => (k H locs ls hP hS hl))
theorem V_icmp_eqT (C : OK sh G p s m args meth c own cc nL ret A) {x y : Int32} {off : Int} (tgt : Nat) (hdg : decode cc pc = .ok (.if_icmp .eq off, 3)) (ht : (pc : Int) + off = (tgt : Int)) (hc : x = y) (k : Vw sh G p l e d s m args below meth c nL A σ tgt lv st v τ) : Vw sh G p l e d s m args below meth c nL A σ pc lv (.int y :: .int x :: st) v τ := fun H locs ls hP hS hl => lv_icmp_eq C.1 C.2.1 hdg ht (fun _ => (k H locs ls hP hS hl)) (fun h => absurd hc (by simpa using h))
theorem V_icmp_eqF (C : OK sh G p s m args meth c own cc nL ret A) {x y : Int32} {off : Int} (tgt : Nat) (hdg : decode cc pc = .ok (.if_icmp .eq off, 3)) (ht : (pc : Int) + off = (tgt : Int)) (hc : ¬ x = y) (k : Vw sh G p l e d s m args below meth c nL A σ (pc + 3) lv st v τ) : Vw sh G p l e d s m args below meth c nL A σ pc lv (.int y :: .int x :: st) v τ := fun H locs ls hP hS hl => lv_icmp_eq C.1 C.2.1 hdg ht (fun h => absurd h hc) (fun _ => (k H locs ls hP hS hl))
theorem V_if_neT (C : OK sh G p s m args meth c own cc nL ret A) {x : Int32} {off : Int} (tgt : Nat) (hdg : decode cc pc = .ok (.ifCond .ne off, 3)) (ht : (pc : Int) + off = (tgt : Int)) (hc : ¬ x = 0) (k : Vw sh G p l e d s m args below meth c nL A σ tgt lv st v τ) : Vw sh G p l e d s m args below meth c nL A σ pc lv (.int x :: st) v τ := fun H locs ls hP hS hl => lv_if_ne C.1 C.2.1 hdg ht (fun _ => (k H locs ls hP hS hl)) (fun h => absurd h hc)
theorem V_if_neF (C : OK sh G p s m args meth c own cc nL ret A) {x : Int32} {off : Int} (tgt : Nat) (hdg : decode cc pc = .ok (.ifCond .ne off, 3)) (ht : (pc : Int) + off = (tgt : Int)) (hc : x = 0) (k : Vw sh G p l e d s m args below meth c nL A σ (pc + 3) lv st v τ) : Vw sh G p l e d s m args below meth c nL A σ pc lv (.int x :: st) v τ := fun H locs ls hP hS hl => lv_if_ne C.1 C.2.1 hdg ht (fun h => absurd hc h) (fun _ => (k H locs ls hP hS hl))
theorem V_icmp_neT (C : OK sh G p s m args meth c own cc nL ret A) {x y : Int32} {off : Int} (tgt : Nat) (hdg : decode cc pc = .ok (.if_icmp .ne off, 3)) (ht : (pc : Int) + off = (tgt : Int)) (hc : ¬ x = y) (k : Vw sh G p l e d s m args below meth c nL A σ tgt lv st v τ) : Vw sh G p l e d s m args below meth c nL A σ pc lv (.int y :: .int x :: st) v τ := fun H locs ls hP hS hl => lv_icmp_ne C.1 C.2.1 hdg ht (fun _ => (k H locs ls hP hS hl)) (fun h => absurd h hc)
theorem V_icmp_neF (C : OK sh G p s m args meth c own cc nL ret A) {x y : Int32} {off : Int} (tgt : Nat) (hdg : decode cc pc = .ok (.if_icmp .ne off, 3)) (ht : (pc : Int) + off = (tgt : Int)) (hc : x = y) (k : Vw sh G p l e d s m args below meth c nL A σ (pc + 3) lv st v τ) : Vw sh G p l e d s m args below meth c nL A σ pc lv (.int y :: .int x :: st) v τ := fun H locs ls hP hS hl => lv_icmp_ne C.1 C.2.1 hdg ht (fun h => absurd hc h) (fun _ => (k H locs ls hP hS hl))
theorem V_if_ltT (C : OK sh G p s m args meth c own cc nL ret A) {x : Int32} {off : Int} (tgt : Nat) (hdg : decode cc pc = .ok (.ifCond .lt off, 3)) (ht : (pc : Int) + off = (tgt : Int)) (hc : x < 0) (k : Vw sh G p l e d s m args below meth c nL A σ tgt lv st v τ) : Vw sh G p l e d s m args below meth c nL A σ pc lv (.int x :: st) v τ := fun H locs ls hP hS hl => lv_if_lt C.1 C.2.1 hdg ht (fun _ => (k H locs ls hP hS hl)) (fun h => absurd hc (by simpa using h))
theorem V_if_ltF (C : OK sh G p s m args meth c own cc nL ret A) {x : Int32} {off : Int} (tgt : Nat) (hdg : decode cc pc = .ok (.ifCond .lt off, 3)) (ht : (pc : Int) + off = (tgt : Int)) (hc : ¬ x < 0) (k : Vw sh G p l e d s m args below meth c nL A σ (pc + 3) lv st v τ) : Vw sh G p l e d s m args below meth c nL A σ pc lv (.int x :: st) v τ := fun H locs ls hP hS hl => lv_if_lt C.1 C.2.1 hdg ht (fun h => absurd h hc) (fun _ => (k H locs ls hP hS hl))
theorem V_icmp_ltT (C : OK sh G p s m args meth c own cc nL ret A) {x y : Int32} {off : Int} (tgt : Nat) (hdg : decode cc pc = .ok (.if_icmp .lt off, 3)) (ht : (pc : Int) + off = (tgt : Int)) (hc : x < y) (k : Vw sh G p l e d s m args below meth c nL A σ tgt lv st v τ) : Vw sh G p l e d s m args below meth c nL A σ pc lv (.int y :: .int x :: st) v τ := fun H locs ls hP hS hl => lv_icmp_lt C.1 C.2.1 hdg ht (fun _ => (k H locs ls hP hS hl)) (fun h => absurd hc (by simpa using h))
theorem V_icmp_ltF (C : OK sh G p s m args meth c own cc nL ret A) {x y : Int32} {off : Int} (tgt : Nat) (hdg : decode cc pc = .ok (.if_icmp .lt off, 3)) (ht : (pc : Int) + off = (tgt : Int)) (hc : ¬ x < y) (k : Vw sh G p l e d s m args below meth c nL A σ (pc + 3) lv st v τ) : Vw sh G p l e d s m args below meth c nL A σ pc lv (.int y :: .int x :: st) v τ := fun H locs ls hP hS hl => lv_icmp_lt C.1 C.2.1 hdg ht (fun h => absurd h hc) (fun _ => (k H locs ls hP hS hl))
theorem V_if_geT (C : OK sh G p s m args meth c own cc nL ret A) {x : Int32} {off : Int} (tgt : Nat) (hdg : decode cc pc = .ok (.ifCond .ge off, 3)) (ht : (pc : Int) + off = (tgt : Int)) (hc : 0 ≤ x) (k : Vw sh G p l e d s m args below meth c nL A σ tgt lv st v τ) : Vw sh G p l e d s m args below meth c nL A σ pc lv (.int x :: st) v τ := fun H locs ls hP hS hl => lv_if_ge C.1 C.2.1 hdg ht (fun _ => (k H locs ls hP hS hl)) (fun h => absurd hc (by simpa using h))
theorem V_if_geF (C : OK sh G p s m args meth c own cc nL ret A) {x : Int32} {off : Int} (tgt : Nat) (hdg : decode cc pc = .ok (.ifCond .ge off, 3)) (ht : (pc : Int) + off = (tgt : Int)) (hc : ¬ 0 ≤ x) (k : Vw sh G p l e d s m args below meth c nL A σ (pc + 3) lv st v τ) : Vw sh G p l e d s m args below meth c nL A σ pc lv (.int x :: st) v τ := fun H locs ls hP hS hl => lv_if_ge C.1 C.2.1 hdg ht (fun h => absurd h hc) (fun _ => (k H locs ls hP hS hl))
theorem V_icmp_geT (C : OK sh G p s m args meth c own cc nL ret A) {x y : Int32} {off : Int} (tgt : Nat) (hdg : decode cc pc = .ok (.if_icmp .ge off, 3)) (ht : (pc : Int) + off = (tgt : Int)) (hc : y ≤ x) (k : Vw sh G p l e d s m args below meth c nL A σ tgt lv st v τ) : Vw sh G p l e d s m args below meth c nL A σ pc lv (.int y :: .int x :: st) v τ := fun H locs ls hP hS hl => lv_icmp_ge C.1 C.2.1 hdg ht (fun _ => (k H locs ls hP hS hl)) (fun h => absurd hc (by simpa using h))
theorem V_icmp_geF (C : OK sh G p s m args meth c own cc nL ret A) {x y : Int32} {off : Int} (tgt : Nat) (hdg : decode cc pc = .ok (.if_icmp .ge off, 3)) (ht : (pc : Int) + off = (tgt : Int)) (hc : ¬ y ≤ x) (k : Vw sh G p l e d s m args below meth c nL A σ (pc + 3) lv st v τ) : Vw sh G p l e d s m args below meth c nL A σ pc lv (.int y :: .int x :: st) v τ := fun H locs ls hP hS hl => lv_icmp_ge C.1 C.2.1 hdg ht (fun h => absurd h hc) (fun _ => (k H locs ls hP hS hl))
theorem V_if_gtT (C : OK sh G p s m args meth c own cc nL ret A) {x : Int32} {off : Int} (tgt : Nat) (hdg : decode cc pc = .ok (.ifCond .gt off, 3)) (ht : (pc : Int) + off = (tgt : Int)) (hc : 0 < x) (k : Vw sh G p l e d s m args below meth c nL A σ tgt lv st v τ) : Vw sh G p l e d s m args below meth c nL A σ pc lv (.int x :: st) v τ := fun H locs ls hP hS hl => lv_if_gt C.1 C.2.1 hdg ht (fun _ => (k H locs ls hP hS hl)) (fun h => absurd hc (by simpa using h))
theorem V_if_gtF (C : OK sh G p s m args meth c own cc nL ret A) {x : Int32} {off : Int} (tgt : Nat) (hdg : decode cc pc = .ok (.ifCond .gt off, 3)) (ht : (pc : Int) + off = (tgt : Int)) (hc : ¬ 0 < x) (k : Vw sh G p l e d s m args below meth c nL A σ (pc + 3) lv st v τ) : Vw sh G p l e d s m args below meth c nL A σ pc lv (.int x :: st) v τ := fun H locs ls hP hS hl => lv_if_gt C.1 C.2.1 hdg ht (fun h => absurd h hc) (fun _ => (k H locs ls hP hS hl))
theorem V_icmp_gtT (C : OK sh G p s m args meth c own cc nL ret A) {x y : Int32} {off : Int} (tgt : Nat) (hdg : decode cc pc = .ok (.if_icmp .gt off, 3)) (ht : (pc : Int) + off = (tgt : Int)) (hc : y < x) (k : Vw sh G p l e d s m args below meth c nL A σ tgt lv st v τ) : Vw sh G p l e d s m args below meth c nL A σ pc lv (.int y :: .int x :: st) v τ := fun H locs ls hP hS hl => lv_icmp_gt C.1 C.2.1 hdg ht (fun _ => (k H locs ls hP hS hl)) (fun h => absurd hc (by simpa using h))
theorem V_icmp_gtF (C : OK sh G p s m args meth c own cc nL ret A) {x y : Int32} {off : Int} (tgt : Nat) (hdg : decode cc pc = .ok (.if_icmp .gt off, 3)) (ht : (pc : Int) + off = (tgt : Int)) (hc : ¬ y < x) (k : Vw sh G p l e d s m args below meth c nL A σ (pc + 3) lv st v τ) : Vw sh G p l e d s m args below meth c nL A σ pc lv (.int y :: .int x :: st) v τ := fun H locs ls hP hS hl => lv_icmp_gt C.1 C.2.1 hdg ht (fun h => absurd h hc) (fun _ => (k H locs ls hP hS hl))
theorem V_if_leT (C : OK sh G p s m args meth c own cc nL ret A) {x : Int32} {off : Int} (tgt : Nat) (hdg : decode cc pc = .ok (.ifCond .le off, 3)) (ht : (pc : Int) + off = (tgt : Int)) (hc : x ≤ 0) (k : Vw sh G p l e d s m args below meth c nL A σ tgt lv st v τ) : Vw sh G p l e d s m args below meth c nL A σ pc lv (.int x :: st) v τ := fun H locs ls hP hS hl => lv_if_le C.1 C.2.1 hdg ht (fun _ => (k H locs ls hP hS hl)) (fun h => absurd hc (by simpa using h))
theorem V_if_leF (C : OK sh G p s m args meth c own cc nL ret A) {x : Int32} {off : Int} (tgt : Nat) (hdg : decode cc pc = .ok (.ifCond .le off, 3)) (ht : (pc : Int) + off = (tgt : Int)) (hc : ¬ x ≤ 0) (k : Vw sh G p l e d s m args below meth c nL A σ (pc + 3) lv st v τ) : Vw sh G p l e d s m args below meth c nL A σ pc lv (.int x :: st) v τ := fun H locs ls hP hS hl => lv_if_le C.1 C.2.1 hdg ht (fun h => absurd h hc) (fun _ => (k H locs ls hP hS hl))
theorem V_icmp_leT (C : OK sh G p s m args meth c own cc nL ret A) {x y : Int32} {off : Int} (tgt : Nat) (hdg : decode cc pc = .ok (.if_icmp .le off, 3)) (ht : (pc : Int) + off = (tgt : Int)) (hc : x ≤ y) (k : Vw sh G p l e d s m args below meth c nL A σ tgt lv st v τ) : Vw sh G p l e d s m args below meth c nL A σ pc lv (.int y :: .int x :: st) v τ := fun H locs ls hP hS hl => lv_icmp_le C.1 C.2.1 hdg ht (fun _ => (k H locs ls hP hS hl)) (fun h => absurd hc (by simpa using h))
theorem V_icmp_leF (C : OK sh G p s m args meth c own cc nL ret A) {x y : Int32} {off : Int} (tgt : Nat) (hdg : decode cc pc = .ok (.if_icmp .le off, 3)) (ht : (pc : Int) + off = (tgt : Int)) (hc : ¬ x ≤ y) (k : Vw sh G p l e d s m args below meth c nL A σ (pc + 3) lv st v τ) : Vw sh G p l e d s m args below meth c nL A σ pc lv (.int y :: .int x :: st) v τ := fun H locs ls hP hS hl => lv_icmp_le C.1 C.2.1 hdg ht (fun h => absurd h hc) (fun _ => (k H locs ls hP hS hl))
theorem V_ifnullT (C : OK sh G p s m args meth c own cc nL ret A) {off : Int} (tgt : Nat) (hdg : decode cc pc = .ok (.ifnull off, 3)) (ht : (pc : Int) + off = (tgt : Int)) (k : Vw sh G p l e d s m args below meth c nL A σ tgt lv st v τ) : Vw sh G p l e d s m args below meth c nL A σ pc lv (.null :: st) v τ := fun H locs ls hP hS hl => lv_ifnullN C.1 C.2.1 hdg ht (k H locs ls hP hS hl)
theorem V_ifnullF (C : OK sh G p s m args meth c own cc nL ret A) {off : Int} {x : Nat} (hdg : decode cc pc = .ok (.ifnull off, 3)) (k : Vw sh G p l e d s m args below meth c nL A σ (pc + 3) lv st v τ) : Vw sh G p l e d s m args below meth c nL A σ pc lv (.ref x :: st) v τ := fun H locs ls hP hS hl => lv_ifnull C.1 C.2.1 hdg (k H locs ls hP hS hl)
theorem V_ifnonnullT (C : OK sh G p s m args meth c own cc nL ret A) {off : Int} {x : Nat} (tgt : Nat) (hdg : decode cc pc = .ok (.ifnonnull off, 3)) (ht : (pc : Int) + off = (tgt : Int)) (k : Vw sh G p l e d s m args below meth c nL A σ tgt lv st v τ) : Vw sh G p l e d s m args below meth c nL A σ pc lv (.ref x :: st) v τ := fun H locs ls hP hS hl => lv_ifnonnull C.1 C.2.1 hdg ht (k H locs ls hP hS hl)
theorem V_ifnonnullF (C : OK sh G p s m args meth c own cc nL ret A) {off : Int} (hdg : decode cc pc = .ok (.ifnonnull off, 3)) (k : Vw sh G p l e d s m args below meth c nL A σ (pc + 3) lv st v τ) : Vw sh G p l e d s m args below meth c nL A σ pc lv (.null :: st) v τ := fun H locs ls hP hS hl => lv_ifnonnullN C.1 C.2.1 hdg (k H locs ls hP hS hl)
theorem V_tableIn (C : OK sh G p s m args meth c own cc nL ret A) {dflt lo hi : Int} {offs : Array Int} {len : Nat} {x : Int32} {off : Int} (tgt : Nat) (hdg : decode cc pc = .ok (.tableswitch dflt lo hi offs, len)) (h1 : ¬ x.toInt < lo ∧ ¬ hi < x.toInt ∧ offs[(x.toInt - lo).toNat]? = some off) (ht : (pc : Int) + off = (tgt : Int)) (k : Vw sh G p l e d s m args below meth c nL A σ tgt lv st v τ) : Vw sh G p l e d s m args below meth c nL A σ pc lv (.int x :: st) v τ := fun H locs ls hP hS hl => lv_tableIn C.1 C.2.1 hdg h1.1 h1.2.1 h1.2.2 ht (k H locs ls hP hS hl)
theorem V_tableOut (C : OK sh G p s m args meth c own cc nL ret A) {dflt lo hi : Int} {offs : Array Int} {len : Nat} {x : Int32} (tgt : Nat) (hdg : decode cc pc = .ok (.tableswitch dflt lo hi offs, len)) (h : x.toInt < lo ∨ hi < x.toInt) (ht : (pc : Int) + dflt = (tgt : Int)) (k : Vw sh G p l e d s m args below meth c nL A σ tgt lv st v τ) : Vw sh G p l e d s m args below meth c nL A σ pc lv (.int x :: st) v τ := fun H locs ls hP hS hl => lv_tableOut C.1 C.2.1 hdg h ht (k H locs ls hP hS hl)
theorem V_lookup (C : OK sh G p s m args meth c own cc nL ret A) {dflt : Int} {ps : Array (Int × Int)} {len : Nat} {x : Int32} {off : Int} (tgt : Nat) (hdg : decode cc pc = .ok (.lookupswitch dflt ps, len)) (hp : (ps.toList.zip (ps.toList.drop 1)).all (fun (a, next) => a.1 < next.1) = true) (ho : Op.lookupswitch.offset ps.toList dflt x.toInt = off) (ht : (pc : Int) + off = (tgt : Int)) (k : Vw sh G p l e d s m args below meth c nL A σ tgt lv st v τ) : Vw sh G p l e d s m args below meth c nL A σ pc lv (.int x :: st) v τ := fun H locs ls hP hS hl => lv_lookup C.1 C.2.1 hdg hp ho ht (k H locs ls hP hS hl)
theorem V_ldc (C : OK sh G p s m args meth c own cc nL ret A) {index : Nat} {w : Int32} (hdg : decode cc pc = .ok (.ldc index, 2)) (hw : Jvm.Cond.constant own index w ∈ wsL_law) (k : Vw sh G p l e d s m args below meth c nL A σ (pc + 2) lv (.int w :: st) v τ) : Vw sh G p l e d s m args below meth c nL A σ pc lv st v τ := fun H locs ls hP hS hl => lv_ldc C.1 C.2.1 C.2.2.2.1 (C.2.2.2.2.1 _ hw) hdg (k H locs ls hP hS hl)
theorem V_ldcw (C : OK sh G p s m args meth c own cc nL ret A) {index : Nat} {w : Int32} (hdg : decode cc pc = .ok (.ldc_w index, 3)) (hw : Jvm.Cond.constant own index w ∈ wsL_law) (k : Vw sh G p l e d s m args below meth c nL A σ (pc + 3) lv (.int w :: st) v τ) : Vw sh G p l e d s m args below meth c nL A σ pc lv st v τ := fun H locs ls hP hS hl => lv_ldcw C.1 C.2.1 C.2.2.2.1 (C.2.2.2.2.1 _ hw) hdg (k H locs ls hP hS hl)
theorem V_ldc2 (C : OK sh G p s m args meth c own cc nL ret A) {index : Nat} {w : Int64} (hdg : decode cc pc = .ok (.ldc2_w index, 3)) (hw : Jvm.Cond.constantLong own index w ∈ wsL_law) (k : Vw sh G p l e d s m args below meth c nL A σ (pc + 3) lv (.long w :: st) v τ) : Vw sh G p l e d s m args below meth c nL A σ pc lv st v τ := fun H locs ls hP hS hl => lv_ldc2 C.1 C.2.1 C.2.2.2.1 (C.2.2.2.2.1 _ hw) hdg (k H locs ls hP hS hl)
theorem V_sub  (ks : List Nat) (h : lv_pick lv ks = lv') (k : Vw sh G p l e d s m args below meth c nL A σ pc lv' st v τ) : Vw sh G p l e d s m args below meth c nL A σ pc lv st v τ := fun H locs ls hP hS hl => k H locs ls hP hS (lv_sub hl ks h)
theorem V_getI (C : OK sh G p s m args meth c own cc nL ret A) {k ci j index : Nat} {nm dn ref : String} {T : u_T} {Nc : Nat} {C0 : String} (hk : k < sh.1) (hc : sh.2.1 k = ci) (hcl : vwCl[ci]? = some (C0, T, Nc)) (hci : ci < 20) (hln : sh.2.2.1 k = Nc) (hin : ∀ w ∈ u_ws C0 T Nc, w ∈ wsL_law) (hj : j < Nc) (hf : fk ci j = 0) (hT : (T j).1 = ref) (hw : Cond.fieldLink own index ref (T j).2.1 (T j).2.2.1 ∈ wsL_law) (hdg : decode cc pc = .ok (.getfield index, 3)) (k9 : Vw sh G p l e d s m args below meth c nL A σ (pc + 3) lv (.int (σ.1 k j) :: st) v τ) : Vw sh G p l e d s m args below meth c nL A σ pc lv (.ref (G.2.1 k) :: st) v τ := by
  intro H locs ls hP hS hl
  subst hc
  have he : (Wd sh G σ)[k]? = some (G.2.1 k, .inr (sh.2.1 k, fl sh G σ k)) := by rw [Wd_at hk, ce, if_pos hci]
  have hv : (fl sh G σ k)[j]? = some (.int (σ.1 k j)) := by rw [fl_at (by rw [hln]; exact hj), fv, if_pos hf]
  exact va_get C.1 C.2.1 C.2.2.2.2.1 hin C.2.2.2.1 C.2.2.2.2.2.2.2.1 hP k he hcl j hj (C.2.2.2.2.1 _ hw) (fun x hx => by rw [← hT]; exact hx) hv hdg (k9 H locs ls hP hS hl)
theorem V_getR (C : OK sh G p s m args meth c own cc nL ret A) {k ci j r index : Nat} {ref : String} {T : u_T} {Nc : Nat} {C0 : String} (hk : k < sh.1) (hc : sh.2.1 k = ci) (hcl : vwCl[ci]? = some (C0, T, Nc)) (hci : ci < 20) (hln : sh.2.2.1 k = Nc) (hin : ∀ w ∈ u_ws C0 T Nc, w ∈ wsL_law) (hj : j < Nc) (hf : fk ci j = 2) (hT : (T j).1 = ref) (hr : sh.2.2.2 k j = r) (hw : Cond.fieldLink own index ref (T j).2.1 (T j).2.2.1 ∈ wsL_law) (hdg : decode cc pc = .ok (.getfield index, 3)) (k9 : Vw sh G p l e d s m args below meth c nL A σ (pc + 3) lv (.ref (G.2.1 r) :: st) v τ) : Vw sh G p l e d s m args below meth c nL A σ pc lv (.ref (G.2.1 k) :: st) v τ := by
  intro H locs ls hP hS hl
  subst hc
  subst hr
  have he : (Wd sh G σ)[k]? = some (G.2.1 k, .inr (sh.2.1 k, fl sh G σ k)) := by rw [Wd_at hk, ce, if_pos hci]
  have hv : (fl sh G σ k)[j]? = some (.ref (G.2.1 (sh.2.2.2 k j))) := by rw [fl_at (by rw [hln]; exact hj), fv, if_neg (by rw [hf]; decide), if_neg (by rw [hf]; decide)]
  exact va_get C.1 C.2.1 C.2.2.2.2.1 hin C.2.2.2.1 C.2.2.2.2.2.2.2.1 hP k he hcl j hj (C.2.2.2.2.1 _ hw) (fun x hx => by rw [← hT]; exact hx) hv hdg (k9 H locs ls hP hS hl)
theorem V_getL (C : OK sh G p s m args meth c own cc nL ret A) {k ci j index : Nat} {ref : String} {T : u_T} {Nc : Nat} {C0 : String} (hk : k < sh.1) (hc : sh.2.1 k = ci) (hcl : vwCl[ci]? = some (C0, T, Nc)) (hci : ci < 20) (hln : sh.2.2.1 k = Nc) (hin : ∀ w ∈ u_ws C0 T Nc, w ∈ wsL_law) (hj : j < Nc) (hf : fk ci j = 1) (hT : (T j).1 = ref) (hw : Cond.fieldLink own index ref (T j).2.1 (T j).2.2.1 ∈ wsL_law) (hdg : decode cc pc = .ok (.getfield index, 3)) (k9 : Vw sh G p l e d s m args below meth c nL A σ (pc + 3) lv (.long σ.2 :: st) v τ) : Vw sh G p l e d s m args below meth c nL A σ pc lv (.ref (G.2.1 k) :: st) v τ := by
  intro H locs ls hP hS hl
  subst hc
  have he : (Wd sh G σ)[k]? = some (G.2.1 k, .inr (sh.2.1 k, fl sh G σ k)) := by rw [Wd_at hk, ce, if_pos hci]
  have hv : (fl sh G σ k)[j]? = some (.long σ.2) := by rw [fl_at (by rw [hln]; exact hj), fv, if_neg (by rw [hf]; decide), if_pos hf]
  exact va_get C.1 C.2.1 C.2.2.2.2.1 hin C.2.2.2.1 C.2.2.2.2.2.2.2.1 hP k he hcl j hj (C.2.2.2.2.1 _ hw) (fun x hx => by rw [← hT]; exact hx) hv hdg (k9 H locs ls hP hS hl)
theorem V_putI (C : OK sh G p s m args meth c own cc nL ret A) {k ci j index : Nat} {x : Int32} {ref : String} {T : u_T} {Nc : Nat} {C0 : String} (ty0 : Nat → FieldType) {ty : FieldType} (hk : k < sh.1) (hc : sh.2.1 k = ci) (hcl : vwCl[ci]? = some (C0, T, Nc)) (hci : ci < 20) (hln : sh.2.2.1 k = Nc) (hin : ∀ w ∈ u_ws C0 T Nc, w ∈ wsL_law) (hty : ∀ k, k < Nc → parseFieldDescriptor (T k).2.2.1 = some (ty0 k)) (hnm : ∀ a, a < Nc → ∀ b, b < Nc → a ≠ b → (T a).2.1 ≠ (T b).2.1) (hj : j < Nc) (hf : fk ci j = 0) (hT : (T j).1 = ref) (hfin : (T j).2.2.2 = false) (hd : ty0 j = ty) (hn : narrow ty (.int x) = .int x) (hfit : fits ty (.int x) = true) (hw : Cond.fieldLink own index ref (T j).2.1 (T j).2.2.1 ∈ wsL_law) (hdg : decode cc pc = .ok (.putfield index, 3)) (k9 : Vw sh G p l e d s m args below meth c nL A (up σ k j x) (pc + 3) lv st v τ) : Vw sh G p l e d s m args below meth c nL A σ pc lv (.int x :: .ref (G.2.1 k) :: st) v τ := by
  intro H locs ls hP hS hl
  subst hc
  have he : (Wd sh G σ)[k]? = some (G.2.1 k, .inr (sh.2.1 k, fl sh G σ k)) := by rw [Wd_at hk, ce, if_pos hci]
  have hjl : j < sh.2.2.1 k := by rw [hln]; exact hj
  have hs1 : (fl sh G σ k).set j (.int x) = fl sh G (up σ k j x) k := by
    refine fl_set hjl ?_ (fun i hi => ?_)
    · simp only [fv, if_pos hf]
      simp [up]
    · simp only [fv]
      have h5 : (up σ k j x).1 k i = σ.1 k i := by simp [up, hi]
      rw [h5]
      rfl
  have hset : (Wd sh G σ).set k (G.2.1 k, .inr (sh.2.1 k, (fl sh G σ k).set j (.int x))) = Wd sh G (up σ k j x) := by
    refine Wd_set hk ?_ (fun i hi => ce_same (up_ne hi) (Or.inl rfl))
    rw [ce, if_pos hci, hs1]
  have hD : va_D A (Wd sh G σ) := by rw [C.2.2.2.2.2.2.2.2.2.2]; exact Wd_D C.2.2.2.2.2.2.2.2.1
  refine va_put C.1 C.2.1 C.2.2.2.2.1 hin ty0 hty hnm C.2.2.2.1 C.2.2.2.2.2.2.2.1 hP hD hS k he hcl j hj (C.2.2.2.2.1 _ hw) (fun x hx => by rw [← hT]; exact hx) hfin (hty j hj) (by rw [hd]; exact hn) (by rw [hd]; exact hfit) (by rw [fl_len]; exact hjl) hdg (fun H1 locs1 hP1 _ hS1 => ?_)
  rw [hset] at hP1
  exact k9 H1 locs1 ls hP1 hS1 hl
theorem V_putL (C : OK sh G p s m args meth c own cc nL ret A) {k ci j index : Nat} {x : Int64} {ref : String} {T : u_T} {Nc : Nat} {C0 : String} (ty0 : Nat → FieldType) (hk : k < sh.1) (hc : sh.2.1 k = ci) (hcl : vwCl[ci]? = some (C0, T, Nc)) (hci : ci < 20) (hln : sh.2.2.1 k = Nc) (hin : ∀ w ∈ u_ws C0 T Nc, w ∈ wsL_law) (hty : ∀ k, k < Nc → parseFieldDescriptor (T k).2.2.1 = some (ty0 k)) (hnm : ∀ a, a < Nc → ∀ b, b < Nc → a ≠ b → (T a).2.1 ≠ (T b).2.1) (hj : j < Nc) (hf : fk ci j = 1) (hfo : ∀ i, i ≠ j → fk ci i ≠ 1) (ho : ∀ i, i ≠ k → sh.2.1 i ≠ 10) (hT : (T j).1 = ref) (hfin : (T j).2.2.2 = false) (hd : ty0 j = .long) (hw : Cond.fieldLink own index ref (T j).2.1 (T j).2.2.1 ∈ wsL_law) (hdg : decode cc pc = .ok (.putfield index, 3)) (k9 : Vw sh G p l e d s m args below meth c nL A (upL σ x) (pc + 3) lv st v τ) : Vw sh G p l e d s m args below meth c nL A σ pc lv (.long x :: .ref (G.2.1 k) :: st) v τ := by
  intro H locs ls hP hS hl
  subst hc
  have he : (Wd sh G σ)[k]? = some (G.2.1 k, .inr (sh.2.1 k, fl sh G σ k)) := by rw [Wd_at hk, ce, if_pos hci]
  have hjl : j < sh.2.2.1 k := by rw [hln]; exact hj
  have hs1 : (fl sh G σ k).set j (.long x) = fl sh G (upL σ x) k := by
    refine fl_set hjl ?_ (fun i hi => ?_)
    · simp only [fv, if_neg (show ¬ fk (sh.2.1 k) j = 0 by rw [hf]; decide), if_pos hf]
      rfl
    · simp only [fv, if_neg (hfo i hi)]
      rfl
  have hset : (Wd sh G σ).set k (G.2.1 k, .inr (sh.2.1 k, (fl sh G σ k).set j (.long x))) = Wd sh G (upL σ x) := by
    refine Wd_set hk ?_ (fun i hi => ce_same rfl (Or.inr (ho i hi)))
    rw [ce, if_pos hci, hs1]
  have hD : va_D A (Wd sh G σ) := by rw [C.2.2.2.2.2.2.2.2.2.2]; exact Wd_D C.2.2.2.2.2.2.2.2.1
  refine va_put C.1 C.2.1 C.2.2.2.2.1 hin ty0 hty hnm C.2.2.2.1 C.2.2.2.2.2.2.2.1 hP hD hS k he hcl j hj (C.2.2.2.2.1 _ hw) (fun x hx => by rw [← hT]; exact hx) hfin (hty j hj) (by rw [hd]; rfl) (by rw [hd]; rfl) (by rw [fl_len]; exact hjl) hdg (fun H1 locs1 hP1 _ hS1 => ?_)
  rw [hset] at hP1
  exact k9 H1 locs1 ls hP1 hS1 hl
theorem V_getIN (C : OK sh G p s m args meth c own cc nL ret A) {k ci j index : Nat} {ref host : String} {T : u_T} {Nc : Nat} {C0 : String} (hk : k < sh.1) (hc : sh.2.1 k = ci) (hcl : vwCl[ci]? = some (C0, T, Nc)) (hci : ci < 20) (hln : sh.2.2.1 k = Nc) (hin : ∀ w ∈ u_ws C0 T Nc, w ∈ wsL_law) (hj : j < Nc) (hf : fk ci j = 0) (hT : (T j).1 = ref) (hw : Cond.fieldLinkNest own index ref (T j).2.1 (T j).2.2.1 host ∈ nws) (hdg : decode cc pc = .ok (.getfield index, 3)) (k9 : Vw sh G p l e d s m args below meth c nL A σ (pc + 3) lv (.int (σ.1 k j) :: st) v τ) : Vw sh G p l e d s m args below meth c nL A σ pc lv (.ref (G.2.1 k) :: st) v τ := by
  intro H locs ls hP hS hl
  subst hc
  have he : (Wd sh G σ)[k]? = some (G.2.1 k, .inr (sh.2.1 k, fl sh G σ k)) := by rw [Wd_at hk, ce, if_pos hci]
  have hv : (fl sh G σ k)[j]? = some (.int (σ.1 k j)) := by rw [fl_at (by rw [hln]; exact hj), fv, if_pos hf]
  exact va_getN C.1 C.2.1 C.2.2.2.2.1 hin C.2.2.2.1 C.2.2.2.2.2.2.2.1 hP k he hcl j hj (va_Nw.use rfl (C.2.2.2.2.2.2.2.2.2.1.2.2.2.1 _ hw)) (fun x hx => by rw [← hT]; exact hx) hv hdg (k9 H locs ls hP hS hl)
theorem V_getRN (C : OK sh G p s m args meth c own cc nL ret A) {k ci j r index : Nat} {ref host : String} {T : u_T} {Nc : Nat} {C0 : String} (hk : k < sh.1) (hc : sh.2.1 k = ci) (hcl : vwCl[ci]? = some (C0, T, Nc)) (hci : ci < 20) (hln : sh.2.2.1 k = Nc) (hin : ∀ w ∈ u_ws C0 T Nc, w ∈ wsL_law) (hj : j < Nc) (hf : fk ci j = 2) (hT : (T j).1 = ref) (hr : sh.2.2.2 k j = r) (hw : Cond.fieldLinkNest own index ref (T j).2.1 (T j).2.2.1 host ∈ nws) (hdg : decode cc pc = .ok (.getfield index, 3)) (k9 : Vw sh G p l e d s m args below meth c nL A σ (pc + 3) lv (.ref (G.2.1 r) :: st) v τ) : Vw sh G p l e d s m args below meth c nL A σ pc lv (.ref (G.2.1 k) :: st) v τ := by
  intro H locs ls hP hS hl
  subst hc
  subst hr
  have he : (Wd sh G σ)[k]? = some (G.2.1 k, .inr (sh.2.1 k, fl sh G σ k)) := by rw [Wd_at hk, ce, if_pos hci]
  have hv : (fl sh G σ k)[j]? = some (.ref (G.2.1 (sh.2.2.2 k j))) := by rw [fl_at (by rw [hln]; exact hj), fv, if_neg (by rw [hf]; decide), if_neg (by rw [hf]; decide)]
  exact va_getN C.1 C.2.1 C.2.2.2.2.1 hin C.2.2.2.1 C.2.2.2.2.2.2.2.1 hP k he hcl j hj (va_Nw.use rfl (C.2.2.2.2.2.2.2.2.2.1.2.2.2.1 _ hw)) (fun x hx => by rw [← hT]; exact hx) hv hdg (k9 H locs ls hP hS hl)
theorem V_putIN (C : OK sh G p s m args meth c own cc nL ret A) {k ci j index : Nat} {x : Int32} {ref host : String} {T : u_T} {Nc : Nat} {C0 : String} (ty0 : Nat → FieldType) {ty : FieldType} (hk : k < sh.1) (hc : sh.2.1 k = ci) (hcl : vwCl[ci]? = some (C0, T, Nc)) (hci : ci < 20) (hln : sh.2.2.1 k = Nc) (hin : ∀ w ∈ u_ws C0 T Nc, w ∈ wsL_law) (hty : ∀ k, k < Nc → parseFieldDescriptor (T k).2.2.1 = some (ty0 k)) (hnm : ∀ a, a < Nc → ∀ b, b < Nc → a ≠ b → (T a).2.1 ≠ (T b).2.1) (hj : j < Nc) (hf : fk ci j = 0) (hT : (T j).1 = ref) (hfin : (T j).2.2.2 = false) (hd : ty0 j = ty) (hn : narrow ty (.int x) = .int x) (hfit : fits ty (.int x) = true) (hw : Cond.fieldLinkNest own index ref (T j).2.1 (T j).2.2.1 host ∈ nws) (hdg : decode cc pc = .ok (.putfield index, 3)) (k9 : Vw sh G p l e d s m args below meth c nL A (up σ k j x) (pc + 3) lv st v τ) : Vw sh G p l e d s m args below meth c nL A σ pc lv (.int x :: .ref (G.2.1 k) :: st) v τ := by
  intro H locs ls hP hS hl
  subst hc
  have he : (Wd sh G σ)[k]? = some (G.2.1 k, .inr (sh.2.1 k, fl sh G σ k)) := by rw [Wd_at hk, ce, if_pos hci]
  have hjl : j < sh.2.2.1 k := by rw [hln]; exact hj
  have hs1 : (fl sh G σ k).set j (.int x) = fl sh G (up σ k j x) k := by
    refine fl_set hjl ?_ (fun i hi => ?_)
    · simp only [fv, if_pos hf]
      simp [up]
    · simp only [fv]
      have h5 : (up σ k j x).1 k i = σ.1 k i := by simp [up, hi]
      rw [h5]
      rfl
  have hset : (Wd sh G σ).set k (G.2.1 k, .inr (sh.2.1 k, (fl sh G σ k).set j (.int x))) = Wd sh G (up σ k j x) := by
    refine Wd_set hk ?_ (fun i hi => ce_same (up_ne hi) (Or.inl rfl))
    rw [ce, if_pos hci, hs1]
  have hD : va_D A (Wd sh G σ) := by rw [C.2.2.2.2.2.2.2.2.2.2]; exact Wd_D C.2.2.2.2.2.2.2.2.1
  refine va_putN C.1 C.2.1 C.2.2.2.2.1 hin ty0 hty hnm C.2.2.2.1 C.2.2.2.2.2.2.2.1 hP hD hS k he hcl j hj (va_Nw.use rfl (C.2.2.2.2.2.2.2.2.2.1.2.2.2.1 _ hw)) (fun x hx => by rw [← hT]; exact hx) hfin (hty j hj) (by rw [hd]; exact hn) (by rw [hd]; exact hfit) (by rw [fl_len]; exact hjl) hdg (fun H1 locs1 hP1 _ hS1 => ?_)
  rw [hset] at hP1
  exact k9 H1 locs1 ls hP1 hS1 hl
theorem ce_ai {k : Nat} (h : sh.2.1 k = 20 ∨ sh.2.1 k = 21) : ce sh G σ k = .inl (G.2.2.1 (sh.2.1 k - 20), sh.2.2.1 k, .inl (σ.1 k)) := by
  rw [ce, if_neg (by omega), if_pos (by omega)]
theorem V_iald (C : OK sh G p s m args meth c own cc nL ret A) {k : Nat} {i : Int32} (hk : k < sh.1) (hc : sh.2.1 k = 20) (hi : vp_in i (sh.2.2.1 k)) (hdg : decode cc pc = .ok (.iaload, 1)) (k9 : Vw sh G p l e d s m args below meth c nL A σ (pc + 1) lv (.int (σ.1 k i.toNatClampNeg) :: st) v τ) : Vw sh G p l e d s m args below meth c nL A σ pc lv (.int i :: .ref (G.2.1 k) :: st) v τ := fun H locs ls hP hS hl =>
  va_iald (f := σ.1 k) C.1 C.2.1 C.2.2.2.2.2.2.2.1 hP k 0 (by rw [Wd_at hk, ce_ai (Or.inl hc), hc]) rfl hi hdg (k9 H locs ls hP hS hl)
theorem V_zald (C : OK sh G p s m args meth c own cc nL ret A) {k : Nat} {i : Int32} (hk : k < sh.1) (hc : sh.2.1 k = 21) (hi : vp_in i (sh.2.2.1 k)) (hdg : decode cc pc = .ok (.baload, 1)) (k9 : Vw sh G p l e d s m args below meth c nL A σ (pc + 1) lv (.int (σ.1 k i.toNatClampNeg) :: st) v τ) : Vw sh G p l e d s m args below meth c nL A σ pc lv (.int i :: .ref (G.2.1 k) :: st) v τ := fun H locs ls hP hS hl =>
  va_zald (f := σ.1 k) C.1 C.2.1 C.2.2.2.2.2.2.2.1 hP k 1 (by rw [Wd_at hk, ce_ai (Or.inr hc), hc]) rfl hi hdg (k9 H locs ls hP hS hl)
theorem V_alenI (C : OK sh G p s m args meth c own cc nL ret A) {k : Nat} {w : Int32} (hk : k < sh.1) (hc : sh.2.1 k = 20) (hv : Int32.ofNat (sh.2.2.1 k) = w) (hdg : decode cc pc = .ok (.arraylength, 1)) (k9 : Vw sh G p l e d s m args below meth c nL A σ (pc + 1) lv (.int w :: st) v τ) : Vw sh G p l e d s m args below meth c nL A σ pc lv (.ref (G.2.1 k) :: st) v τ := fun H locs ls hP hS hl =>
  va_alen (x := (sh.2.2.1 k, .inl (σ.1 k))) C.1 C.2.1 C.2.2.2.2.2.2.2.1 hP k 0 (by rw [Wd_at hk, ce_ai (Or.inl hc), hc]) rfl hv hdg (k9 H locs ls hP hS hl)
theorem V_alenZ (C : OK sh G p s m args meth c own cc nL ret A) {k : Nat} {w : Int32} (hk : k < sh.1) (hc : sh.2.1 k = 21) (hv : Int32.ofNat (sh.2.2.1 k) = w) (hdg : decode cc pc = .ok (.arraylength, 1)) (k9 : Vw sh G p l e d s m args below meth c nL A σ (pc + 1) lv (.int w :: st) v τ) : Vw sh G p l e d s m args below meth c nL A σ pc lv (.ref (G.2.1 k) :: st) v τ := fun H locs ls hP hS hl =>
  va_alen (x := (sh.2.2.1 k, .inl (σ.1 k))) C.1 C.2.1 C.2.2.2.2.2.2.2.1 hP k 1 (by rw [Wd_at hk, ce_ai (Or.inr hc), hc]) rfl hv hdg (k9 H locs ls hP hS hl)
theorem V_alenR (C : OK sh G p s m args meth c own cc nL ret A) {k : Nat} {w : Int32} (hk : k < sh.1) (hc : sh.2.1 k = 23) (hv : Int32.ofNat (sh.2.2.1 k) = w) (hdg : decode cc pc = .ok (.arraylength, 1)) (k9 : Vw sh G p l e d s m args below meth c nL A σ (pc + 1) lv (.int w :: st) v τ) : Vw sh G p l e d s m args below meth c nL A σ pc lv (.ref (G.2.1 k) :: st) v τ := fun H locs ls hP hS hl =>
  va_alen (x := (sh.2.2.1 k, .inr (.inr (.inr (.inr (fun i => if i < sh.2.2.1 k then some (G.2.1 (sh.2.2.2 k i)) else none)))))) C.1 C.2.1 C.2.2.2.2.2.2.2.1 hP k 3 (by rw [Wd_at hk, ce, if_neg (by omega), if_neg (by omega), hc]) rfl hv hdg (k9 H locs ls hP hS hl)
theorem va_inLt {i : Int32} {n : Nat} (h : vp_in i n) : i.toNatClampNeg < n := Nat.not_le.mp (fun q => h (Or.inr q))
theorem V_aald2 (C : OK sh G p s m args meth c own cc nL ret A) {k : Nat} {i : Int32} (hk : k < sh.1) (hc : sh.2.1 k = 22) (hi : vp_in i (sh.2.2.1 k)) (hdg : decode cc pc = .ok (.aaload, 1)) (k9 : Vw sh G p l e d s m args below meth c nL A σ (pc + 1) lv (.ref (G.2.1 (sh.2.2.2 k i.toNatClampNeg)) :: st) v τ) : Vw sh G p l e d s m args below meth c nL A σ pc lv (.int i :: .ref (G.2.1 k) :: st) v τ := by
  intro H locs ls hP hS hl
  have he : (Wd sh G σ)[k]? = some (G.2.1 k, .inl (G.2.2.1 2, sh.2.2.1 k, .inr (.inr (.inr (.inr (fun i => if i < sh.2.2.1 k then some (G.2.1 (sh.2.2.2 k i)) else none)))))) := by rw [Wd_at hk, ce, if_neg (by omega), if_neg (by omega), hc]
  have hlt := va_inLt hi
  refine W.aald (v := va_rf (if i.toNatClampNeg < sh.2.2.1 k then some (G.2.1 (sh.2.2.2 k i.toNatClampNeg)) else none)) (ty := .array .int) C.1 C.2.1 (hP k _ he) ((C.2.2.2.2.2.2.2.1.2 2 _ rfl).1 (sh.2.2.1 k) (fun j => va_rf (if j < sh.2.2.1 k then some (G.2.1 (sh.2.2.2 k j)) else none))) rfl (fun q => by cases q) (by show ¬ (i < 0 ∨ (arrV _ _ _).slots.size ≤ _); rw [arrV_size]; exact hi) (by show (arrV _ _ _).slots[_]? = _; rw [arrV_read _ _ hlt]) rfl rfl hdg ?_
  rw [if_pos hlt]
  exact k9 H locs ls hP hS hl
theorem V_aald3 (C : OK sh G p s m args meth c own cc nL ret A) {k : Nat} {i : Int32} (hk : k < sh.1) (hc : sh.2.1 k = 23) (hi : vp_in i (sh.2.2.1 k)) (hdg : decode cc pc = .ok (.aaload, 1)) (k9 : Vw sh G p l e d s m args below meth c nL A σ (pc + 1) lv (.ref (G.2.1 (sh.2.2.2 k i.toNatClampNeg)) :: st) v τ) : Vw sh G p l e d s m args below meth c nL A σ pc lv (.int i :: .ref (G.2.1 k) :: st) v τ := fun H locs ls hP hS hl =>
  va_aldq (C := "SamovarOpinions$Sheet") (f := fun i => if i < sh.2.2.1 k then some (G.2.1 (sh.2.2.2 k i)) else none) C.1 C.2.1 C.2.2.2.2.2.2.2.1 hP k 3 (by rw [Wd_at hk, ce, if_neg (by omega), if_neg (by omega), hc]) rfl hi hdg (by rw [if_pos (va_inLt hi)]; exact k9 H locs ls hP hS hl)
theorem V_iast (C : OK sh G p s m args meth c own cc nL ret A) {k : Nat} {i x : Int32} (hk : k < sh.1) (hc : sh.2.1 k = 20) (hi : vp_in i (sh.2.2.1 k)) (hdg : decode cc pc = .ok (.iastore, 1)) (k9 : Vw sh G p l e d s m args below meth c nL A (up σ k i.toNatClampNeg x) (pc + 1) lv st v τ) : Vw sh G p l e d s m args below meth c nL A σ pc lv (.int x :: .int i :: .ref (G.2.1 k) :: st) v τ := by
  intro H locs ls hP hS hl
  have hD : va_D A (Wd sh G σ) := by rw [C.2.2.2.2.2.2.2.2.2.2]; exact Wd_D C.2.2.2.2.2.2.2.2.1
  have hset : (Wd sh G σ).set k (G.2.1 k, .inl (G.2.2.1 0, sh.2.2.1 k, .inl (upd (σ.1 k) i.toNatClampNeg x))) = Wd sh G (up σ k i.toNatClampNeg x) := by
    refine Wd_set hk ?_ (fun j hj => ce_same (up_ne hj) (Or.inl rfl))
    rw [ce_ai (by omega), hc, up_at]
  refine va_iast (f := σ.1 k) C.1 C.2.1 C.2.2.2.2.2.2.2.1 hP hD hS k 0 (by rw [Wd_at hk, ce_ai (by omega), hc]) rfl hi hdg (fun H1 locs1 hP1 _ hS1 => ?_)
  rw [hset] at hP1
  exact k9 H1 locs1 ls hP1 hS1 hl
theorem V_zast (C : OK sh G p s m args meth c own cc nL ret A) {k : Nat} {i x : Int32} (hk : k < sh.1) (hc : sh.2.1 k = 21) (hi : vp_in i (sh.2.2.1 k)) (hdg : decode cc pc = .ok (.bastore, 1)) (k9 : Vw sh G p l e d s m args below meth c nL A (up σ k i.toNatClampNeg (vp_nar .boolean x)) (pc + 1) lv st v τ) : Vw sh G p l e d s m args below meth c nL A σ pc lv (.int x :: .int i :: .ref (G.2.1 k) :: st) v τ := by
  intro H locs ls hP hS hl
  have hD : va_D A (Wd sh G σ) := by rw [C.2.2.2.2.2.2.2.2.2.2]; exact Wd_D C.2.2.2.2.2.2.2.2.1
  have hset : (Wd sh G σ).set k (G.2.1 k, .inl (G.2.2.1 1, sh.2.2.1 k, .inl (upd (σ.1 k) i.toNatClampNeg (vp_nar .boolean x)))) = Wd sh G (up σ k i.toNatClampNeg (vp_nar .boolean x)) := by
    refine Wd_set hk ?_ (fun j hj => ce_same (up_ne hj) (Or.inl rfl))
    rw [ce_ai (by omega), hc, up_at]
  refine va_zast (f := σ.1 k) C.1 C.2.1 C.2.2.2.2.2.2.2.1 hP hD hS k 1 (by rw [Wd_at hk, ce_ai (by omega), hc]) rfl hi hdg (fun H1 locs1 hP1 _ hS1 => ?_)
  rw [hset] at hP1
  exact k9 H1 locs1 ls hP1 hS1 hl
theorem V_copyI (C : OK sh G p s m args meth c own cc nL ret A) {a b : Nat} {sp dp n : Int32} {index : Nat} (ha : a < sh.1) (hb : b < sh.1) (hca : sh.2.1 a = 20) (hcb : sh.2.1 b = 20) (hw : Cond.methodLink own index arraycopyName ∈ wsL_law) (h1 : ¬ sp < 0) (h2 : ¬ dp < 0) (h3 : ¬ n < 0) (h4 : sp.toNatClampNeg + n.toNatClampNeg ≤ sh.2.2.1 a) (h5 : dp.toNatClampNeg + n.toNatClampNeg ≤ sh.2.2.1 b) (hd : 1 ≤ d) (hst : (st.map fun v => v.category).sum ≤ 8) (hdg : decode cc pc = .ok (.invokestatic index, 3)) (k9 : Vw sh G p l e d s m args below meth c nL A (upA σ b (va_cpy (σ.1 a) (σ.1 b) sp.toNatClampNeg dp.toNatClampNeg n.toNatClampNeg)) (pc + 3) lv st v τ) : Vw sh G p l e d s m args below meth c nL A σ pc lv (.int n :: .int dp :: .ref (G.2.1 b) :: .int sp :: .ref (G.2.1 a) :: st) v τ := by
  intro H locs ls hP hS hl
  have hD : va_D A (Wd sh G σ) := by rw [C.2.2.2.2.2.2.2.2.2.2]; exact Wd_D C.2.2.2.2.2.2.2.2.1
  have hset : (Wd sh G σ).set b (G.2.1 b, .inl (G.2.2.1 0, sh.2.2.1 b, .inl (va_cpy (σ.1 a) (σ.1 b) sp.toNatClampNeg dp.toNatClampNeg n.toNatClampNeg))) = Wd sh G (upA σ b (va_cpy (σ.1 a) (σ.1 b) sp.toNatClampNeg dp.toNatClampNeg n.toNatClampNeg)) := by
    refine Wd_set hb ?_ (fun j hj => ce_same (upA_ne hj) (Or.inl rfl))
    rw [ce_ai (by omega), hcb]
    simp [upA]
  refine va_copyi (f := σ.1 a) (g := σ.1 b) (ty := .int) C.1 C.2.1 (C.2.2.1.trans hl.1.symm) C.2.2.2.1 (C.2.2.2.2.1 _ hw) (C.2.2.2.2.1 _ q_native) (C.2.2.2.2.1 _ q_acstatic) (C.2.2.2.2.1 _ q_sysinit) C.2.2.2.2.2.2.2.1 hP hD hS a b 0 0 (by rw [Wd_at ha, ce_ai (by omega), hca]) (by rw [Wd_at hb, ce_ai (by omega), hcb]) rfl rfl rfl h1 h2 h3 h4 h5 (fun _ _ => rfl) hd ?_ hdg (fun H1 locs1 hP1 _ hS1 => ?_)
  · have h7 : nativeFrameWords "java/lang/System" "arraycopy" 5 ≤ 30 := by decide +kernel
    show _ ≤ 60 * d
    omega
  · rw [hset] at hP1
    exact k9 H1 locs1 ls hP1 hS1 hl
theorem V_gets (C : OK sh G p s m args meth c own cc nL ret A) {i index : Nat} (hi : i < 3) (hw : Cond.fieldLink own index "SamovarOpinions" (stNm.getD i ("", [])).1 "[I" ∈ wsL_law) (hdg : decode cc pc = .ok (.getstatic index, 3)) (k9 : Vw sh G p l e d s m args below meth c nL A σ (pc + 3) lv (.ref (G.2.2.2.1 i) :: st) v τ) : Vw sh G p l e d s m args below meth c nL A σ pc lv st v τ := fun H locs ls hP hS hl =>
  va_gets C.1 C.2.1 (C.2.2.2.2.2.2.2.2.2.1.1 i hi).1 hS C.2.2.2.1 (C.2.2.2.2.1 _ hw) (fun _ h => h) hdg (k9 H locs ls hP hS hl)
theorem V_slen (C : OK sh G p s m args meth c own cc nL ret A) {i : Nat} {w : Int32} (hi : i < 3) (hv : Int32.ofNat (stNm.getD i ("", [])).2.length = w) (hdg : decode cc pc = .ok (.arraylength, 1)) (k9 : Vw sh G p l e d s m args below meth c nL A σ (pc + 1) lv (.int w :: st) v τ) : Vw sh G p l e d s m args below meth c nL A σ pc lv (.ref (G.2.2.2.1 i) :: st) v τ := fun H locs ls hP hS hl =>
  va_tlen C.1 C.2.1 (C.2.2.2.2.2.2.2.2.2.1.1 i hi).2 hS hv hdg (k9 H locs ls hP hS hl)
theorem V_sld (C : OK sh G p s m args meth c own cc nL ret A) {i : Nat} {x : Int32} (hi : i < 3) (hx : vp_in x (stNm.getD i ("", [])).2.length) (hdg : decode cc pc = .ok (.iaload, 1)) (k9 : Vw sh G p l e d s m args below meth c nL A σ (pc + 1) lv (.int ((stNm.getD i ("", [])).2.getD x.toNatClampNeg 0) :: st) v τ) : Vw sh G p l e d s m args below meth c nL A σ pc lv (.int x :: .ref (G.2.2.2.1 i) :: st) v τ := fun H locs ls hP hS hl =>
  va_ti C.1 C.2.1 (C.2.2.2.2.2.2.2.2.2.1.1 i hi).2 hS hx rfl hdg (k9 H locs ls hP hS hl)
theorem V_ldcS (C : OK sh G p s m args meth c own cc nL ret A) {i index : Nat} (hi : i < 13) (ho : (strO.getD i ("", 0, "")).1 = own) (hx : (strO.getD i ("", 0, "")).2.1 = index) (hdg : decode cc pc = .ok (.ldc index, 2)) (k9 : Vw sh G p l e d s m args below meth c nL A σ (pc + 2) lv (.ref (G.2.2.2.2.1 i) :: st) v τ) : Vw sh G p l e d s m args below meth c nL A σ pc lv st v τ := fun H locs ls hP hS hl =>
  va_ldcS C.1 C.2.1 C.2.2.2.1 (by have h := C.2.2.2.2.2.2.2.2.2.1.2.2.1 i hi; rw [ho, hx] at h; exact h) hdg (k9 H locs ls hP hS hl)
theorem V_sgetC (C : OK sh G p s m args meth c own cc nL ret A) {i index : Nat} (hi : i < 13) (hw : Cond.fieldLink own index "java/lang/String" "coder" "B" ∈ wsL_law) (hdg : decode cc pc = .ok (.getfield index, 3)) (k9 : Vw sh G p l e d s m args below meth c nL A σ (pc + 3) lv (.int 0 :: st) v τ) : Vw sh G p l e d s m args below meth c nL A σ pc lv (.ref (G.2.2.2.2.1 i) :: st) v τ := fun H locs ls hP hS hl =>
  vk_getf C.1 C.2.1 (C.2.2.2.2.2.2.2.2.2.1.2.1.1 i hi).2.1 hS C.2.2.2.1 (C.2.2.2.2.1 _ hw) (fun _ h => h) hdg (k9 H locs ls hP hS hl)
theorem V_sgetV (C : OK sh G p s m args meth c own cc nL ret A) {i index : Nat} (hi : i < 13) (hw : Cond.fieldLink own index "java/lang/String" "value" "[B" ∈ wsL_law) (hdg : decode cc pc = .ok (.getfield index, 3)) (k9 : Vw sh G p l e d s m args below meth c nL A σ (pc + 3) lv (.ref (G.2.2.2.2.2 i) :: st) v τ) : Vw sh G p l e d s m args below meth c nL A σ pc lv (.ref (G.2.2.2.2.1 i) :: st) v τ := fun H locs ls hP hS hl =>
  vk_getf C.1 C.2.1 (C.2.2.2.2.2.2.2.2.2.1.2.1.1 i hi).2.2.1 hS C.2.2.2.1 (C.2.2.2.2.1 _ hw) (fun _ h => h) hdg (k9 H locs ls hP hS hl)
theorem V_sbl (C : OK sh G p s m args meth c own cc nL ret A) {i : Nat} {w : Int32} (hi : i < 13) (hv : Int32.ofNat (strL.getD i 0) = w) (hdg : decode cc pc = .ok (.arraylength, 1)) (k9 : Vw sh G p l e d s m args below meth c nL A σ (pc + 1) lv (.int w :: st) v τ) : Vw sh G p l e d s m args below meth c nL A σ pc lv (.ref (G.2.2.2.2.2 i) :: st) v τ := fun H locs ls hP hS hl =>
  va_tlen C.1 C.2.1 (C.2.2.2.2.2.2.2.2.2.1.2.1.1 i hi).2.2.2 hS hv hdg (k9 H locs ls hP hS hl)
theorem V_sbld (C : OK sh G p s m args meth c own cc nL ret A) {i : Nat} {x : Int32} (hi : i < 13) (hx : vp_in x (strL.getD i 0)) (hdg : decode cc pc = .ok (.baload, 1)) (k9 : Vw sh G p l e d s m args below meth c nL A σ (pc + 1) lv (.int ((strB.getD i []).getD x.toNatClampNeg 0) :: st) v τ) : Vw sh G p l e d s m args below meth c nL A σ pc lv (.int x :: .ref (G.2.2.2.2.2 i) :: st) v τ := fun H locs ls hP hS hl =>
  va_tb C.1 C.2.1 (C.2.2.2.2.2.2.2.2.2.1.2.1.1 i hi).2.2.2 hS hx rfl hdg (k9 H locs ls hP hS hl)
theorem V_mmax (C : OK sh G p s m args meth c own cc nL ret A) {x y : Int32} {index : Nat} (hw : Cond.methodLink own index Lib.Math.max.name ∈ wsL_law) (hd : 1 ≤ d) (hst : (st.map fun v => v.category).sum ≤ 8) (hdg : decode cc pc = .ok (.invokestatic index, 3)) (k9 : Vw sh G p l e d s m args below meth c nL A σ (pc + 3) lv (.int (if x < y then y else x) :: st) v τ) : Vw sh G p l e d s m args below meth c nL A σ pc lv (.int y :: .int x :: st) v τ := fun H locs ls hP hS hl =>
  va_mmax C.1 C.2.1 (C.2.2.1.trans hl.1.symm) C.2.2.2.1 (C.2.2.2.2.1 _ hw) (C.2.2.2.2.1 _ q_mmaxS) (C.2.2.2.2.1 _ q_mathI) (C.2.2.2.2.1 _ q_mmaxC) hd (show _ ≤ 60 * d by omega) (Nat.le_refl _) (Nat.le_refl _) hdg (k9 H locs ls hP hS hl)
theorem V_mmin (C : OK sh G p s m args meth c own cc nL ret A) {x y : Int32} {index : Nat} (hw : Cond.methodLink own index Lib.Math.min.name ∈ wsL_law) (hd : 1 ≤ d) (hst : (st.map fun v => v.category).sum ≤ 8) (hdg : decode cc pc = .ok (.invokestatic index, 3)) (k9 : Vw sh G p l e d s m args below meth c nL A σ (pc + 3) lv (.int (if y < x then y else x) :: st) v τ) : Vw sh G p l e d s m args below meth c nL A σ pc lv (.int y :: .int x :: st) v τ := fun H locs ls hP hS hl =>
  va_mmin C.1 C.2.1 (C.2.2.1.trans hl.1.symm) C.2.2.2.1 (C.2.2.2.2.1 _ hw) (C.2.2.2.2.1 _ q_mminS) (C.2.2.2.2.1 _ q_mathI) (C.2.2.2.2.1 _ q_mminC) hd (show _ ≤ 60 * d by omega) (Nat.le_refl _) (Nat.le_refl _) hdg (k9 H locs ls hP hS hl)
theorem V_iret (C : OK sh G p s m args meth c own cc nL ret A) {x : Int32} {ty : FieldType} (hr : ret = some ty) (hn : narrow ty (.int x) = .int x) (hdg : decode cc pc = .ok (.ireturn, 1)) : Vw sh G p l e d s m args below meth c nL A σ pc lv [.int x] (some (.int x)) σ := fun H locs ls hP hS hl =>
  W.zret C.1 C.2.1 (C.2.2.2.2.2.2.1.trans hr) hn (fun t ht _ => ⟨rfl, by rw [ht]; exact hP, hS.F ht⟩) hS.2.2 hdg C.2.2.2.2.2.1
theorem V_lret (C : OK sh G p s m args meth c own cc nL ret A) {x : Int64} (hr : ret = some .long) (hdg : decode cc pc = .ok (.lreturn, 1)) : Vw sh G p l e d s m args below meth c nL A σ pc lv [.long x] (some (.long x)) σ := fun H locs ls hP hS hl =>
  W.lret C.1 C.2.1 (C.2.2.2.2.2.2.1.trans hr) (fun t ht _ => ⟨rfl, by rw [ht]; exact hP, hS.F ht⟩) hS.2.2 hdg C.2.2.2.2.2.1
theorem V_vret (C : OK sh G p s m args meth c own cc nL ret A) (hr : ret = none) (hdg : decode cc pc = .ok (.return_, 1)) : Vw sh G p l e d s m args below meth c nL A σ pc lv [] none σ := fun H locs ls hP hS hl =>
  W.vret C.1 C.2.1 (C.2.2.2.2.2.2.1.trans hr) (fun t ht _ => ⟨rfl, by rw [ht]; exact hP, hS.F ht⟩) hS.2.2 hdg C.2.2.2.2.2.1
theorem V_aret (C : OK sh G p s m args meth c own cc nL ret A) {x : Value} {ty : FieldType} (hr : ret = some ty) (hty : (∃ n, ty = .object n) ∨ ∃ t, ty = .array t) (hx : x = .null ∨ ∃ a, x = .ref a) (hdg : decode cc pc = .ok (.areturn, 1)) : Vw sh G p l e d s m args below meth c nL A σ pc lv [x] (some x) σ := fun H locs ls hP hS hl =>
  W.aret C.1 C.2.1 (C.2.2.2.2.2.2.1.trans hr) hty hx (fun t ht _ => ⟨rfl, by rw [ht]; exact hP, hS.F ht⟩) hS.2.2 hdg C.2.2.2.2.2.1
theorem AW_le {H0 H : Heap} {locs : List Loc} {B : Nat → Prop} (hS : va_S B H0 H locs) : ∀ q, AW sh G H.size q → AW sh G H0.size q := fun q h => h.elim Or.inl (fun h => Or.inr (Nat.le_trans hS.1 h))
theorem PZ_blind {G : Gx} {σ : St} {sz : Nat} {av : List Value} : FrameBlind (va_Pc av (PZ sh G σ sz)) := by
  intro a U g mk h
  obtain ⟨h1, h2, h3, h4, h5, h6⟩ := h
  exact ⟨h1, h2, h3, va_K.moved (u := U) (U := U.calling g mk a) (Vm.Alike.refl U.vm) h4, h5, SX.same (u := U) (U := U.calling g mk a) rfl h6⟩
/-- a method's own words, once for each method -/
def MW (y : MethodName) (bytes : ByteArray) (maxL : Nat) (rt : Option FieldType) (n : Nat) : Prop := Cond.code y bytes maxL rt ∈ wsL_law ∧ Cond.initialized y.cls ∈ wsL_law ∧ (y.cls ≠ "java/lang/invoke/MethodHandle" ∧ y.cls ≠ "java/lang/invoke/VarHandle" ∧ (parseMethodDescriptor y.desc).map (fun d => d.parameters.length) = some n) ∧ maxL ≤ 40
theorem MW.good {y : MethodName} {bytes : ByteArray} {maxL : Nat} {rt : Option FieldType} {n : Nat} (h : MW y bytes maxL rt n) : GoodIn wsL_law (.code y bytes maxL rt :: wsL_law) := fun w hw => by
  rcases List.mem_cons.mp hw with rfl | hw
  · exact wsL_good _ h.1
  · exact wsL_good _ hw
theorem V_back (C : OK sh G p s m args meth c own cc nL ret A) {rt : Option FieldType} {As : Array Value} {σ1 : St} {vr : Option Value} {st0 st1 : List Value} {H : Heap} {locs : List Loc} {ls : Array Slot} (hS : va_S A s.heap H locs) (hl : lv_has ls nL lv)
    (hr : va_Run p l e (Rm d) s m args below meth c H locs 0 0 0 0 (F0 m pc ls st0) st (Qz sh G vr σ1 (AW sh G H.size) As) (AW sh G H.size)) (k : Vw sh G p l e d s m args below meth c nL A σ1 (pc + 3) lv (vr.toList ++ st) v τ) : W p l e (Rm d) s m args below meth c H locs 0 0 (MQ below (Qz sh G v τ A) args s 0 0 A) (F0 m pc ls st0) := by
  have hA : ∀ q, AW sh G H.size q → A q := by rw [C.2.2.2.2.2.2.2.2.2.2]; exact AW_le hS
  intro T hT X
  obtain ⟨v1, st₀, t, T', L, h0, X', hL, e1, e2, ⟨hv, hP1, hz, hk⟩, stp⟩ := hr T hT X
  cases hv
  rw [h0] at hz hk
  rw [← e1] at hP1 hz hk
  obtain ⟨t2, a1, b1⟩ := k T'.heap (locs ++ L) ls hP1 ⟨Nat.le_trans hS.1 hz, fun q h1 h2 => by rw [hk q (Nat.lt_of_lt_of_le h1 hS.1) (fun z => h2 (hA q z))]; exact hS.2.1 q h1 h2, fun q hq => by
      rcases List.mem_append.mp hq with h | h
      · exact hS.2.2 q h
      · exact hA _ (hL q h)⟩ hl T' rfl X'
  exact ⟨t2, stp t2 a1, b1⟩
theorem V_pre (C : OK sh G p s m args meth c own cc nL ret A) {σ : St} {H : Heap} {locs : List Loc} (hP : va_P G.1 vwCl (Wd sh G σ) H) (hS : va_S A s.heap H locs) : ∀ U : State, U.heap = H → s.WarmedH U.vm → PZ sh G σ H.size U := fun U hU hW => by
  have hA : ∀ q, AW sh G H.size q → A q := by rw [C.2.2.2.2.2.2.2.2.2.2]; exact AW_le hS
  refine ⟨by rw [hU], by rw [hU]; exact hP, va_K.moved hW.alike C.2.2.2.2.2.2.2.1, C.2.2.2.2.2.2.2.2.1, ?_⟩
  rw [hU]
  exact SX.warm hW ((C.2.2.2.2.2.2.2.2.2.1.kept hS.2.1).narrow hA)
theorem V_callV (C : OK sh G p s m args meth c own cc nL ret A) {h h' k ci n maxL index : Nat} {y : MethodName} {bytes : ByteArray} {rt : Option FieldType} {As : List Value} {av : Gx → List Value} {σ1 : St} {vr : Gx → Option Value} {st0 : List Value} {q : vw_C} (hct : Ct sh h y bytes maxL rt av σ vr σ1) (hmw : MW y bytes maxL rt n) (hin : Cond.instanceMethod y ∈ wsL_law) (hsl : Cond.selects y.cls y y ∈ wsL_law) (hw : Cond.methodLink own index y ∈ wsL_law) (hk : k < sh.1) (hc : sh.2.1 k = ci) (hci : ci < 20) (hcl : vwCl[ci]? = some q) (hq : q.1 = y.cls) (hd : h + 1 ≤ d) (hav : av G = .ref (G.2.1 k) :: As) (hn : As.length = n) (hst0 : st0 = As.reverse ++ .ref (G.2.1 k) :: st) (hst : (st.map fun v => v.category).sum ≤ 8) (hdg : decode cc pc = .ok (.invokevirtual index, 3)) (k9 : Vw sh G p l e d s m args below meth c nL A σ1 (pc + 3) lv ((vr G).toList ++ st) v τ) : Vw sh G p l e d s m args below meth c nL A σ pc lv st0 v τ := by
  intro H locs ls hP hS hl
  obtain ⟨d', rfl⟩ : ∃ d', d = d' + 1 := ⟨d - 1, by omega⟩
  subst hc
  have hM := hct l d' G H.size (by omega)
  rw [hav] at hM
  have he : (Wd sh G σ)[k]? = some (G.2.1 k, .inr (sh.2.1 k, fl sh G σ k)) := by rw [Wd_at hk, ce, if_pos hci]
  have hrc := va_recv C.2.2.2.2.2.2.2.1 hP hcl he
  rw [hq] at hrc
  refine V_back C hS hl (va_runV (C := y.cls) (As := As) (rest := st) (n := n) ⟨C.1, C.2.1, C.2.2.1, C.2.2.2.1, C.2.2.2.2.1⟩ hM ⟨callB_of n C.2.2.2.2.1 hmw.good rfl rfl rfl (C.2.2.2.2.1 _ hmw.2.1) (C.2.2.2.2.1 _ hw) hmw.2.2.1 ⟨Nat.le_refl _, ?_⟩, C.2.2.2.2.1 _ hin, C.2.2.2.2.1 _ hsl⟩ ⟨PZ_blind, hrc, fun U hU hW => ⟨rfl, V_pre C hP hS U hU hW⟩⟩ rfl hn hl.1 hst0 (lv_room hst) hdg ⟨Nat.le_refl _, Nat.le_refl _⟩) k9
  have := hmw.2.2.2
  show 8 + (maxL + 11) + 60 * d' ≤ 60 * (d' + 1)
  omega
theorem V_callS (C : OK sh G p s m args meth c own cc nL ret A) {h h' n maxL index : Nat} {y : MethodName} {bytes : ByteArray} {rt : Option FieldType} {As : List Value} {av : Gx → List Value} {σ1 : St} {vr : Gx → Option Value} {st0 : List Value} (hct : Ct sh h y bytes maxL rt av σ vr σ1) (hmw : MW y bytes maxL rt n) (hin : Cond.static y ∈ wsL_law) (hw : Cond.methodLink own index y ∈ wsL_law) (hd : h + 1 ≤ d) (hav : av G = As) (hn : As.length = n) (hst0 : st0 = As.reverse ++ st) (hst : (st.map fun v => v.category).sum ≤ 8) (hdg : decode cc pc = .ok (.invokestatic index, 3)) (k9 : Vw sh G p l e d s m args below meth c nL A σ1 (pc + 3) lv ((vr G).toList ++ st) v τ) : Vw sh G p l e d s m args below meth c nL A σ pc lv st0 v τ := by
  intro H locs ls hP hS hl
  obtain ⟨d', rfl⟩ : ∃ d', d = d' + 1 := ⟨d - 1, by omega⟩
  have hM := hct l d' G H.size (by omega)
  rw [hav] at hM
  refine V_back C hS hl (va_runS (As := As) (rest := st) (n := n) ⟨C.1, C.2.1, C.2.2.1, C.2.2.2.1, C.2.2.2.2.1⟩ hM ⟨callB_of n C.2.2.2.2.1 hmw.good rfl rfl rfl (C.2.2.2.2.1 _ hmw.2.1) (C.2.2.2.2.1 _ hw) hmw.2.2.1 ⟨Nat.le_refl _, ?_⟩, C.2.2.2.2.1 _ hin⟩ ⟨PZ_blind, fun U hU hW => ⟨rfl, V_pre C hP hS U hU hW⟩⟩ rfl hn hl.1 hst0 (lv_room hst) hdg ⟨Nat.le_refl _, Nat.le_refl _⟩) k9
  have := hmw.2.2.2
  show 8 + (maxL + 11) + 60 * d' ≤ 60 * (d' + 1)
  omega
theorem V_callSN (C : OK sh G p s m args meth c own cc nL ret A) {h h' n maxL index : Nat} {y : MethodName} {host : String} {bytes : ByteArray} {rt : Option FieldType} {As : List Value} {av : Gx → List Value} {σ1 : St} {vr : Gx → Option Value} {st0 : List Value} (hct : Ct sh h y bytes maxL rt av σ vr σ1) (hmw : MW y bytes maxL rt n) (hin : Cond.static y ∈ wsL_law) (hw : Cond.methodLinkNest own index y host ∈ nws) (hd : h + 1 ≤ d) (hav : av G = As) (hn : As.length = n) (hst0 : st0 = As.reverse ++ st) (hst : (st.map fun v => v.category).sum ≤ 8) (hdg : decode cc pc = .ok (.invokestatic index, 3)) (k9 : Vw sh G p l e d s m args below meth c nL A σ1 (pc + 3) lv ((vr G).toList ++ st) v τ) : Vw sh G p l e d s m args below meth c nL A σ pc lv st0 v τ := by
  intro H locs ls hP hS hl
  obtain ⟨d', rfl⟩ : ∃ d', d = d' + 1 := ⟨d - 1, by omega⟩
  have hM := hct l d' G H.size (by omega)
  rw [hav] at hM
  refine V_back C hS hl (va_runSN (As := As) (rest := st) (n := n) ⟨C.1, C.2.1, C.2.2.1, C.2.2.2.1, C.2.2.2.2.1⟩ hM ⟨va_cnB n C.2.2.2.2.1 hmw.good rfl rfl rfl (C.2.2.2.2.2.2.2.2.2.1.2.2.2.1 _ hw) (C.2.2.2.2.1 _ hmw.2.1) hmw.2.2.1 ⟨Nat.le_refl _, ?_⟩, C.2.2.2.2.1 _ hin, trivial⟩ ⟨PZ_blind, fun U hU hW => ⟨rfl, V_pre C hP hS U hU hW⟩⟩ rfl hn hl.1 hst0 (lv_room hst) hdg ⟨Nat.le_refl _, Nat.le_refl _⟩) k9
  have := hmw.2.2.2
  show 8 + (maxL + 11) + 60 * d' ≤ 60 * (d' + 1)
  omega
end VROWS
/-- a contract out of the walk of the method's body -/
theorem Ct.of {sh : Sh} {h maxL n : Nat} {y : MethodName} {bytes : ByteArray} {rt : Option FieldType} {av : Gx → List Value} {σ τ : St} {v : Gx → Option Value} (hmw : MW y bytes maxL rt n) (hy : plainName y.cls = true) (hlen : ∀ G, (lg_sl (av G)).length ≤ maxL)
    (body : ∀ (G : Gx) (p : Program) (l : Launch) (e : Env) (d : Nat) (s : State) (m : MethodId) (args : Array Value) (below : List Frame) (meth : Method) (c : Code) (A : Nat → Prop), h ≤ d → OK sh G p s m args meth c y.cls bytes maxL rt A → Vw sh G p l e d s m args below meth c maxL A σ 0 (lv_args 0 (av G)) [] (v G) τ) : Ct sh h y bytes maxL rt av σ v τ := by
  intro l d G sz hd
  refine Met.ofW (cc := bytes) (maxL := maxL) (ret := rt) hy rfl ?_
  intro p e s m args below meth c s₁ B hml hv
  obtain ⟨rfl, hsz, hP, hK, hI, hX⟩ := hv
  subst hsz
  have hts := atoms_spec (ws := .code y bytes maxL rt :: wsL_law) B.pre
  have hown : s.vm.findClass y.cls = some m.cls := findClass_of_methodNamed B.named
  have hl := lv_entry (av G) (n := maxL) (hlen G)
  rw [lg_entry_eq]
  exact body G p l e d s m _ below meth c (AW sh G s.heap.size) hd ⟨B.exec, B.bytes, hml, hown, fun w hw => hts w (List.mem_cons_of_mem _ hw), B.notSynchronized, B.returns, hK, hI, hX, rfl⟩ s.heap [] _ hP va_S.rf hl

