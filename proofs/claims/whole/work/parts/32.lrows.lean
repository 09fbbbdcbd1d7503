def gm (G : Gx) (am : Nat → Nat) : Gx := (G.1, am, G.2.2)
abbrev OKL (G : Gx) (am : Nat → Nat) (p : Program) (s : State) (m : MethodId) (args : Array Value) (meth : Method) (c : Code) (b L : Nat) (xs : Nat → Int32) (A : Nat → Prop) : Prop :=
  p.tables.exec = Jvm.exec ∧ c.code = cL_law ∧ c.maxLocals = 4 ∧ s.vm.findClass RL = some m.cls ∧ (∀ w ∈ wsL_law, w.before args s = true) ∧ va_K G.1 vwCl (tyl G) s ∧ Inj shX G ∧ Inj shM (gm G am) ∧ (∀ i j, i < shX.1 → j < shM.1 → G.2.1 i ≠ am j) ∧ (∀ i, i < shX.1 → A (G.2.1 i)) ∧ (∀ j, j < shM.1 → A (am j)) ∧ SX G A s s.heap ∧ (∀ q, s.heap.size ≤ q → A q) ∧ va_X b L xs s s.heap ∧ ¬ A b ∧ b < s.heap.size
def Lw (G : Gx) (am : Nat → Nat) (p : Program) (l : Launch) (e : Env) (R : Room) (s : State) (m : MethodId) (args : Array Value) (below : List Frame) (meth : Method) (c : Code) (A : Nat → Prop) (cells slots : Nat) (Q : State → Prop) (σ μ : St) (pc : Nat) (lv : List (Nat × Value)) (st : List Value) : Prop :=
  ∀ (H : Heap) (locs : List Loc) (ls : Array Slot), va_P G.1 vwCl (Wd shX G σ) H → va_P G.1 vwCl (Wd shM (gm G am) μ) H → va_S A s.heap H locs → lv_has ls 4 lv → W p l e R s m args below meth c H locs cells slots Q (F0 m pc ls st)
section LROWS
variable {G : Gx} {am : Nat → Nat} {p : Program} {l : Launch} {e : Env} {s : State} {m : MethodId} {args : Array Value} {below : List Frame} {meth : Method} {c : Code} {cc : ByteArray} {A : Nat → Prop} {σ μ : St} {pc : Nat} {lv lv' : List (Nat × Value)} {st : List Value} {R : Room} {cells slots : Nat} {Q : State → Prop} {b L : Nat} {xs : Nat → Int32}
theorem L_aload_n (C : OKL G am p s m args meth c b L xs A) {k : Fin 4} {i : Nat} {x : Nat} (q : Nat) (hdg : decode cL_law pc = .ok (.aload_n k, 1)) (hi : (k : Nat) = i) (hl0 : lv[q]? = some (i, .ref x)) (k9 : Lw G am p l e R s m args below meth c A cells slots Q σ μ (pc + 1) lv (.ref x :: st)) : Lw G am p l e R s m args below meth c A cells slots Q σ μ pc lv st := fun H locs ls hP hP2 hS hl => lv_aload_n C.1 C.2.1 hdg hi (lv_at hl q hl0) (k9 H locs ls hP hP2 hS hl)
theorem L_iload_n (C : OKL G am p s m args meth c b L xs A) {k : Fin 4} {i : Nat} {x : Int32} (q : Nat) (hdg : decode cL_law pc = .ok (.iload_n k, 1)) (hi : (k : Nat) = i) (hl0 : lv[q]? = some (i, .int x)) (k9 : Lw G am p l e R s m args below meth c A cells slots Q σ μ (pc + 1) lv (.int x :: st)) : Lw G am p l e R s m args below meth c A cells slots Q σ μ pc lv st := fun H locs ls hP hP2 hS hl => lv_iload_n C.1 C.2.1 hdg hi (lv_at hl q hl0) (k9 H locs ls hP hP2 hS hl)
theorem L_istore_n (C : OKL G am p s m args meth c b L xs A) {k : Fin 4} {i : Nat} {x : Int32} (hdg : decode cL_law pc = .ok (.istore_n k, 1)) (hi : (k : Nat) = i) (hn : i < 4) (hl0 : (i, (.int x : Value)) :: lv.filter (fun q => !(q.1 == i) && !(q.1 + 1 == i && q.2.category == 2)) = lv') (k9 : Lw G am p l e R s m args below meth c A cells slots Q σ μ (pc + 1) lv' st) : Lw G am p l e R s m args below meth c A cells slots Q σ μ pc lv (.int x :: st) := fun H locs ls hP hP2 hS hl => lv_istore_n C.1 C.2.1 hdg hi hl hn hl0 (fun ls' hl' => k9 H locs ls' hP hP2 hS hl')
theorem L_iinc (C : OKL G am p s m args meth c b L xs A) {i : Nat} {n : Int} {x w : Int32} (q : Nat) (hdg : decode cL_law pc = .ok (.iinc i n, 3)) (hk : lv[q]? = some (i, .int x)) (hv : x + Int32.ofInt n = w) (hn : i < 4) (hl0 : (i, (.int w : Value)) :: lv.filter (fun q => !(q.1 == i) && !(q.1 + 1 == i && q.2.category == 2)) = lv') (k9 : Lw G am p l e R s m args below meth c A cells slots Q σ μ (pc + 3) lv' st) : Lw G am p l e R s m args below meth c A cells slots Q σ μ pc lv st := fun H locs ls hP hP2 hS hl => lv_iinc (k := q) C.1 C.2.1 hdg hl hk hv hn hl0 (fun ls' hl' => k9 H locs ls' hP hP2 hS hl')
theorem L_iconst (C : OKL G am p s m args meth c b L xs A) {n : Int} {w : Int32} (hdg : decode cL_law pc = .ok (.iconst n, 1)) (hv : Int32.ofInt n = w) (k : Lw G am p l e R s m args below meth c A cells slots Q σ μ (pc + 1) lv (.int w :: st)) : Lw G am p l e R s m args below meth c A cells slots Q σ μ pc lv (st) := fun H locs ls hP hP2 hS hl => lv_iconst C.1 C.2.1 hdg hv (k H locs ls hP hP2 hS hl)
theorem L_bipush (C : OKL G am p s m args meth c b L xs A) {n : Int} {w : Int32} (hdg : decode cL_law pc = .ok (.bipush n, 2)) (hv : (Int8.ofInt n).toInt32 = w) (k : Lw G am p l e R s m args below meth c A cells slots Q σ μ (pc + 2) lv (.int w :: st)) : Lw G am p l e R s m args below meth c A cells slots Q σ μ pc lv (st) := fun H locs ls hP hP2 hS hl => lv_bipush C.1 C.2.1 hdg hv (k H locs ls hP hP2 hS hl)
theorem L_iadd (C : OKL G am p s m args meth c b L xs A) {x y : Int32} (hdg : decode cL_law pc = .ok (.iadd, 1)) (k : Lw G am p l e R s m args below meth c A cells slots Q σ μ (pc + 1) lv (.int (x + y) :: st)) : Lw G am p l e R s m args below meth c A cells slots Q σ μ pc lv (.int y :: .int x :: st) := fun H locs ls hP hP2 hS hl => lv_iadd C.1 C.2.1 hdg  (k H locs ls hP hP2 hS hl)
theorem L_isub (C : OKL G am p s m args meth c b L xs A) {x y : Int32} (hdg : decode cL_law pc = .ok (.isub, 1)) (k : Lw G am p l e R s m args below meth c A cells slots Q σ μ (pc + 1) lv (.int (x - y) :: st)) : Lw G am p l e R s m args below meth c A cells slots Q σ μ pc lv (.int y :: .int x :: st) := fun H locs ls hP hP2 hS hl => lv_isub C.1 C.2.1 hdg  (k H locs ls hP hP2 hS hl)
theorem L_iand (C : OKL G am p s m args meth c b L xs A) {x y : Int32} (hdg : decode cL_law pc = .ok (.iand, 1)) (k : Lw G am p l e R s m args below meth c A cells slots Q σ μ (pc + 1) lv (.int (x &&& y) :: st)) : Lw G am p l e R s m args below meth c A cells slots Q σ μ pc lv (.int y :: .int x :: st) := fun H locs ls hP hP2 hS hl => lv_iand C.1 C.2.1 hdg  (k H locs ls hP hP2 hS hl)
theorem L_lcmp (C : OKL G am p s m args meth c b L xs A) {x y : Int64} (hdg : decode cL_law pc = .ok (.lcmp, 1)) (k : Lw G am p l e R s m args below meth c A cells slots Q σ μ (pc + 1) lv (.int (lg_cmp x y) :: st)) : Lw G am p l e R s m args below meth c A cells slots Q σ μ pc lv (.long y :: .long x :: st) := fun H locs ls hP hP2 hS hl => W.lcmp C.1 C.2.1 hdg  (k H locs ls hP hP2 hS hl)
theorem L_goto (C : OKL G am p s m args meth c b L xs A) {off : Int} (tgt : Nat) (hdg : decode cL_law pc = .ok (.goto off, 3)) (ht : (pc : Int) + off = (tgt : Int)) (k : Lw G am p l e R s m args below meth c A cells slots Q σ μ tgt lv st) : Lw G am p l e R s m args below meth c A cells slots Q σ μ pc lv st := fun H locs ls hP hP2 hS hl => lv_goto C.1 C.2.1 hdg ht (k H locs ls hP hP2 hS hl)
theorem L_if_eqT (C : OKL G am p s m args meth c b L xs A) {x : Int32} {off : Int} (tgt : Nat) (hdg : decode cL_law pc = .ok (.ifCond .eq off, 3)) (ht : (pc : Int) + off = (tgt : Int)) (hc : x = 0) (k : Lw G am p l e R s m args below meth c A cells slots Q σ μ tgt lv st) : Lw G am p l e R s m args below meth c A cells slots Q σ μ pc lv (.int x :: st) := fun H locs ls hP hP2 hS hl => lv_if_eq C.1 C.2.1 hdg ht (fun _ => (k H locs ls hP hP2 hS hl)) (fun h => absurd hc (by simpa using h))
theorem L_icmp_eqT (C : OKL G am p s m args meth c b L xs A) {x y : Int32} {off : Int} (tgt : Nat) (hdg : decode cL_law pc = .ok (.if_icmp .eq off, 3)) (ht : (pc : Int) + off = (tgt : Int)) (hc : x = y) (k : Lw G am p l e R s m args below meth c A cells slots Q σ μ tgt lv st) : Lw G am p l e R s m args below meth c A cells slots Q σ μ pc lv (.int y :: .int x :: st) := fun H locs ls hP hP2 hS hl => lv_icmp_eq C.1 C.2.1 hdg ht (fun _ => (k H locs ls hP hP2 hS hl)) (fun h => absurd hc (by simpa using h))
theorem L_icmp_gtT (C : OKL G am p s m args meth c b L xs A) {x y : Int32} {off : Int} (tgt : Nat) (hdg : decode cL_law pc = .ok (.if_icmp .gt off, 3)) (ht : (pc : Int) + off = (tgt : Int)) (hc : y < x) (k : Lw G am p l e R s m args below meth c A cells slots Q σ μ tgt lv st) : Lw G am p l e R s m args below meth c A cells slots Q σ μ pc lv (.int y :: .int x :: st) := fun H locs ls hP hP2 hS hl => lv_icmp_gt C.1 C.2.1 hdg ht (fun _ => (k H locs ls hP hP2 hS hl)) (fun h => absurd hc (by simpa using h))
theorem L_icmp_gtF (C : OKL G am p s m args meth c b L xs A) {x y : Int32} {off : Int} (tgt : Nat) (hdg : decode cL_law pc = .ok (.if_icmp .gt off, 3)) (ht : (pc : Int) + off = (tgt : Int)) (hc : ¬ y < x) (k : Lw G am p l e R s m args below meth c A cells slots Q σ μ (pc + 3) lv st) : Lw G am p l e R s m args below meth c A cells slots Q σ μ pc lv (.int y :: .int x :: st) := fun H locs ls hP hP2 hS hl => lv_icmp_gt C.1 C.2.1 hdg ht (fun h => absurd h hc) (fun _ => (k H locs ls hP hP2 hS hl))
theorem L_tableIn (C : OKL G am p s m args meth c b L xs A) {dflt lo hi : Int} {offs : Array Int} {len : Nat} {x : Int32} {off : Int} (tgt : Nat) (hdg : decode cL_law pc = .ok (.tableswitch dflt lo hi offs, len)) (h1 : ¬ x.toInt < lo ∧ ¬ hi < x.toInt ∧ offs[(x.toInt - lo).toNat]? = some off) (ht : (pc : Int) + off = (tgt : Int)) (k : Lw G am p l e R s m args below meth c A cells slots Q σ μ tgt lv st) : Lw G am p l e R s m args below meth c A cells slots Q σ μ pc lv (.int x :: st) := fun H locs ls hP hP2 hS hl => lv_tableIn C.1 C.2.1 hdg h1.1 h1.2.1 h1.2.2 ht (k H locs ls hP hP2 hS hl)
theorem L_tableOut (C : OKL G am p s m args meth c b L xs A) {dflt lo hi : Int} {offs : Array Int} {len : Nat} {x : Int32} (tgt : Nat) (hdg : decode cL_law pc = .ok (.tableswitch dflt lo hi offs, len)) (h : x.toInt < lo ∨ hi < x.toInt) (ht : (pc : Int) + dflt = (tgt : Int)) (k : Lw G am p l e R s m args below meth c A cells slots Q σ μ tgt lv st) : Lw G am p l e R s m args below meth c A cells slots Q σ μ pc lv (.int x :: st) := fun H locs ls hP hP2 hS hl => lv_tableOut C.1 C.2.1 hdg h ht (k H locs ls hP hP2 hS hl)
theorem L_slen (C : OKL G am p s m args meth c b L xs A) (hdg : decode cL_law pc = .ok (.arraylength, 1)) (k9 : Lw G am p l e R s m args below meth c A cells slots Q σ μ (pc + 1) lv (.int (Int32.ofNat L) :: st)) : Lw G am p l e R s m args below meth c A cells slots Q σ μ pc lv (.ref b :: st) := fun H locs ls hP hP2 hS hl =>
  va_slen C.1 C.2.1 C.2.2.2.2.2.2.2.2.2.2.2.2.2.1 C.2.2.2.2.2.2.2.2.2.2.2.2.2.2.2 C.2.2.2.2.2.2.2.2.2.2.2.2.2.2.1 hS hdg (k9 H locs ls hP hP2 hS hl)
theorem L_sld (C : OKL G am p s m args meth c b L xs A) {i : Int32} (hi : vp_in i L) (hdg : decode cL_law pc = .ok (.iaload, 1)) (k9 : Lw G am p l e R s m args below meth c A cells slots Q σ μ (pc + 1) lv (.int (xs i.toNatClampNeg) :: st)) : Lw G am p l e R s m args below meth c A cells slots Q σ μ pc lv (.int i :: .ref b :: st) := fun H locs ls hP hP2 hS hl =>
  va_sld C.1 C.2.1 C.2.2.2.2.2.2.2.2.2.2.2.2.2.1 C.2.2.2.2.2.2.2.2.2.2.2.2.2.2.2 C.2.2.2.2.2.2.2.2.2.2.2.2.2.2.1 hS hi hdg (k9 H locs ls hP hP2 hS hl)
theorem L_sub (ks : List Nat) (h : lv_pick lv ks = lv') (k : Lw G am p l e R s m args below meth c A cells slots Q σ μ pc lv' st) : Lw G am p l e R s m args below meth c A cells slots Q σ μ pc lv st := fun H locs ls hP hP2 hS hl => k H locs ls hP hP2 hS (lv_sub hl ks h)
/-- what a call leaves: the frame of a world -/
theorem L_back (C : OKL G am p s m args meth c b L xs A) {sh : Sh} {G1 : Gx} {σ1 : St} {As : Array Value} {vr : Option Value} {st0 : List Value} {H : Heap} {locs : List Loc} {ls : Array Slot} (hAw : ∀ q, AW sh G1 H.size q → A q) (hS : va_S A s.heap H locs)
    (hr : va_Run p l e R s m args below meth c H locs cells slots 0 0 (F0 m pc ls st0) st (Qz sh G1 vr σ1 (AW sh G1 H.size) As) (AW sh G1 H.size)) (k : ∀ (H1 : Heap) (locs1 : List Loc), va_P G1.1 vwCl (Wd sh G1 σ1) H1 → (∀ q, q < H.size → ¬ AW sh G1 H.size q → H1[q]? = H[q]?) → va_S A s.heap H1 locs1 → W p l e R s m args below meth c H1 locs1 cells slots Q (F0 m (pc + 3) ls (vr.toList ++ st))) : W p l e R s m args below meth c H locs cells slots Q (F0 m pc ls st0) := by
  intro T hT X
  obtain ⟨v1, st₀, t, T', Lc, h0, X', hL, e1, e2, ⟨hv, hP1, hz, hk⟩, stp⟩ := hr T hT X
  cases hv
  rw [h0] at hz hk
  rw [← e1] at hP1 hz hk
  obtain ⟨t2, a1, b1⟩ := k T'.heap (locs ++ Lc) hP1 hk ⟨Nat.le_trans hS.1 hz, fun q h1 h2 => by rw [hk q (Nat.lt_of_lt_of_le h1 hS.1) (fun z => h2 (hAw q z))]; exact hS.2.1 q h1 h2, fun q hq => by
      rcases List.mem_append.mp hq with h | h
      · exact hS.2.2 q h
      · exact hAw _ (hL q h)⟩ T' rfl X'
  exact ⟨t2, stp t2 a1, b1⟩
theorem L_callX (C : OKL G am p s m args meth c b L xs A) {h n maxL index : Nat} {y : MethodName} {bytes : ByteArray} {rt : Option FieldType} {As : List Value} {av : Gx → List Value} {σ1 : St} {vr : Gx → Option Value} {st0 : List Value} (hct : Ct shX h y bytes maxL rt av σ vr σ1) (hmw : MW y bytes maxL rt n) (hin : Cond.instanceMethod y ∈ wsL_law) (hsl : Cond.selects y.cls y y ∈ wsL_law) (hw : Cond.methodLink RL index y ∈ wsL_law) (hq : y.cls = RX9) (hav : av G = .ref (G.2.1 0) :: As) (hn : As.length = n) (hst0 : st0 = As.reverse ++ .ref (G.2.1 0) :: st) (hst : (st.map fun v => v.category).sum ≤ 8) (hf : h + 1 ≤ R.frames) (hlo : 60 * (h + 1) ≤ R.locals) (hce : cells ≤ R.cells) (hsl2 : slots ≤ R.slots) (hdg : decode cL_law pc = .ok (.invokevirtual index, 3)) (k9 : Lw G am p l e R s m args below meth c A cells slots Q σ1 μ (pc + 3) lv ((vr G).toList ++ st)) : Lw G am p l e R s m args below meth c A cells slots Q σ μ pc lv st0 := by
  intro H locs ls hP hP2 hS hl
  have hM := hct l h G H.size (Nat.le_refl _)
  rw [hav] at hM
  have hAw : ∀ q, AW shX G H.size q → A q := fun q z => by
    rcases z with ⟨k, hk, rfl⟩ | z
    · exact C.2.2.2.2.2.2.2.2.2.1 k hk
    · exact C.2.2.2.2.2.2.2.2.2.2.2.2.1 q (Nat.le_trans hS.1 z)
  have he : (Wd shX G σ)[0]? = some (G.2.1 0, .inr (9, fl shX G σ 0)) := by rw [Wd_at (by decide)]; rfl
  have hrc := va_recv C.2.2.2.2.2.1 hP (show vwCl[9]? = some (RX9, TX9, 10) from rfl) he
  rw [← hq] at hrc
  have hmx := hmw.2.2.2
  refine L_back C hAw hS (va_runV (C := y.cls) (As := As) (rest := st) (n := n) (nL := 4) ⟨C.1, C.2.1, C.2.2.1, C.2.2.2.1, C.2.2.2.2.1⟩ hM ⟨callB_of n C.2.2.2.2.1 hmw.good rfl rfl rfl (C.2.2.2.2.1 _ hmw.2.1) (C.2.2.2.2.1 _ hw) hmw.2.2.1 ⟨hf, by show 8 + (maxL + 11) + 60 * h ≤ R.locals; omega⟩, C.2.2.2.2.1 _ hin, C.2.2.2.2.1 _ hsl⟩ ⟨PZ_blind, hrc, fun U hU hW => ⟨rfl, ?_⟩⟩ rfl hn hl.1 hst0 (lv_room hst) hdg ⟨hce, hsl2⟩) (fun H1 locs1 hP1 hk1 hS1 => ?_)
  · refine ⟨by rw [hU], by rw [hU]; exact hP, va_K.moved hW.alike C.2.2.2.2.2.1, C.2.2.2.2.2.2.1, ?_⟩
    rw [hU]
    exact SX.warm hW ((C.2.2.2.2.2.2.2.2.2.2.2.1.kept hS.2.1).narrow hAw)
  · refine k9 H1 locs1 ls hP1 (hP2.kept (fun k q hq => ?_)) hS1 hl
    obtain ⟨hk, rfl⟩ := Wd_some hq
    have hlt := (hP2 k _ hq).lt
    refine hk1 _ hlt (fun z => ?_)
    rcases z with ⟨i, hi, z⟩ | z
    · exact C.2.2.2.2.2.2.2.2.1 i k hi hk z.symm
    · exact absurd hlt (Nat.not_lt.mpr z)
theorem L_callM (C : OKL G am p s m args meth c b L xs A) {h n maxL index : Nat} {y : MethodName} {bytes : ByteArray} {rt : Option FieldType} {As : List Value} {av : Gx → List Value} {μ1 : St} {vr : Gx → Option Value} {st0 : List Value} (hct : Ct shM h y bytes maxL rt av μ vr μ1) (hmw : MW y bytes maxL rt n) (hin : Cond.instanceMethod y ∈ wsL_law) (hsl : Cond.selects y.cls y y ∈ wsL_law) (hw : Cond.methodLink RL index y ∈ wsL_law) (hq : y.cls = RX10) (hav : av (gm G am) = .ref (am 0) :: As) (hn : As.length = n) (hst0 : st0 = As.reverse ++ .ref (am 0) :: st) (hst : (st.map fun v => v.category).sum ≤ 8) (hf : h + 1 ≤ R.frames) (hlo : 60 * (h + 1) ≤ R.locals) (hce : cells ≤ R.cells) (hsl2 : slots ≤ R.slots) (hdg : decode cL_law pc = .ok (.invokevirtual index, 3)) (k9 : Lw G am p l e R s m args below meth c A cells slots Q σ μ1 (pc + 3) lv ((vr (gm G am)).toList ++ st)) : Lw G am p l e R s m args below meth c A cells slots Q σ μ pc lv st0 := by
  intro H locs ls hP hP2 hS hl
  have hM := hct l h (gm G am) H.size (Nat.le_refl _)
  rw [hav] at hM
  have hAw : ∀ q, AW shM (gm G am) H.size q → A q := fun q z => by
    rcases z with ⟨k, hk, rfl⟩ | z
    · exact C.2.2.2.2.2.2.2.2.2.2.1 k hk
    · exact C.2.2.2.2.2.2.2.2.2.2.2.2.1 q (Nat.le_trans hS.1 z)
  have he : (Wd shM (gm G am) μ)[0]? = some (am 0, .inr (10, fl shM (gm G am) μ 0)) := by rw [Wd_at (by decide)]; rfl
  have hrc := va_recv C.2.2.2.2.2.1 hP2 (show vwCl[10]? = some (RX10, TX10, 48) from rfl) he
  rw [← hq] at hrc
  have hmx := hmw.2.2.2
  refine L_back C hAw hS (va_runV (C := y.cls) (As := As) (rest := st) (n := n) (nL := 4) ⟨C.1, C.2.1, C.2.2.1, C.2.2.2.1, C.2.2.2.2.1⟩ hM ⟨callB_of n C.2.2.2.2.1 hmw.good rfl rfl rfl (C.2.2.2.2.1 _ hmw.2.1) (C.2.2.2.2.1 _ hw) hmw.2.2.1 ⟨hf, by show 8 + (maxL + 11) + 60 * h ≤ R.locals; omega⟩, C.2.2.2.2.1 _ hin, C.2.2.2.2.1 _ hsl⟩ ⟨PZ_blind, hrc, fun U hU hW => ⟨rfl, ?_⟩⟩ rfl hn hl.1 hst0 (lv_room hst) hdg ⟨hce, hsl2⟩) (fun H1 locs1 hP1 hk1 hS1 => ?_)
  · refine ⟨by rw [hU], by rw [hU]; exact hP2, va_K.moved hW.alike C.2.2.2.2.2.1, C.2.2.2.2.2.2.2.1, ?_⟩
    rw [hU]
    exact SX.warm hW ((C.2.2.2.2.2.2.2.2.2.2.2.1.kept hS.2.1).narrow hAw)
  · refine k9 H1 locs1 ls (hP.kept (fun k q hq => ?_)) hP1 hS1 hl
    obtain ⟨hk, rfl⟩ := Wd_some hq
    have hlt := (hP k _ hq).lt
    refine hk1 _ hlt (fun z => ?_)
    rcases z with ⟨i, hi, z⟩ | z
    · exact C.2.2.2.2.2.2.2.2.1 k i hk hi z
    · exact absurd hlt (Nat.not_lt.mpr z)
end LROWS
