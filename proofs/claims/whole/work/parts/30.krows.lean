def va_AOA (ty : FieldType) (U : State) : Prop := (Cond.arrayOver (.array ty)).before #[] U = true
theorem va_AOA.use {ty : FieldType} {A : Array Value} {U : State} (h : va_AOA ty U) : (Cond.arrayOver (.array ty)).before A U = true := h
theorem va_AOA.moved {ty : FieldType} {u U : State} (hvm : u.vm.Alike U.vm) (h : va_AOA ty u) : va_AOA ty U := arrayOver_alikeB hvm h
/-! ===== BEGIN new T[n][m]: the outer array a place, the inner ones among the pooled ===== -/
/-- f, but v at every address of l -/
def vr_up {α : Type} (f : Nat → α) (l : List Nat) (v : α) : Nat → α := fun a => if a ∈ l then v else f a
theorem vr_up_in {α : Type} {f : Nat → α} {l : List Nat} {v : α} {a : Nat} (h : a ∈ l) : vr_up f l v a = v := if_pos h
theorem vr_up_ne {α : Type} {f : Nat → α} {l : List Nat} {v : α} {a : Nat} (h : a ∉ l) : vr_up f l v a = f a := if_neg h
theorem vr_rows {L l : List Nat} {f : Nat → va_E} {e : va_E} (h : ∀ a, a ∈ l → a ∉ L) : va_pl L f ++ l.map (fun a => (a, e)) = va_pl (L ++ l) (vr_up f l e) := by
  unfold va_pl
  rw [List.map_append]
  congr 1
  · apply List.map_congr_left
    intro a ha
    rw [vr_up_ne (fun q => h a q ha)]
  · apply List.map_congr_left
    intro a ha
    rw [vr_up_in ha]
theorem vr_lay {X rows : va_W} {x : Nat × va_E} {pl : va_W} {D : va_G} {cl : List vw_C} {H : Heap} (hP : va_P D cl (((X ++ pl) ++ [x]) ++ rows) H) : va_P D cl ((X ++ [x]) ++ (pl ++ rows)) H := by
  rw [List.append_assoc (X ++ pl)] at hP
  have h := va_P.swap hP
  rw [← List.append_assoc X] at h
  have h2 := va_P.swap h
  rw [List.append_assoc (X ++ [x])] at h2
  exact h2
theorem vr_layD {X rows : va_W} {x : Nat × va_E} {pl : va_W} {A : Nat → Prop} (hD : va_D A (((X ++ pl) ++ [x]) ++ rows)) : va_D A ((X ++ [x]) ++ (pl ++ rows)) := by
  rw [List.append_assoc (X ++ pl)] at hD
  have h := va_D.swap hD
  rw [← List.append_assoc X] at h
  have h2 := va_D.swap h
  rw [List.append_assoc (X ++ [x])] at h2
  exact h2
theorem vr_outer (c : ClassId) (N h0 : Nat) : ∀ i : Nat, Jvm.Free.Multi.outerC c N h0 i = arrV c N (fun j => va_rf (if j < i then some (h0 + 1 + j) else none))
  | 0 => by
    show ({ cls := c, slots := Array.replicate N .null, vm := .none } : Cell) = _
    rw [arrV_new]
    refine congrArg (arrV c N) (funext fun j => ?_)
    simp [va_rf]
  | i + 1 => by
    show (Jvm.Free.Multi.outerC c N h0 i).setSlot i (.ref (h0 + 1 + i)) = _
    rw [vr_outer c N h0 i, arrV_store]
    refine congrArg (arrV c N) (funext fun j => ?_)
    by_cases e : j = i
    · subst e
      simp [updV, va_rf]
    · by_cases h : j < i
      · simp [updV, e, h, Nat.lt_succ_of_lt h]
      · simp [updV, e, h, show ¬ j < i + 1 by omega]
section VGM
variable {p : Program} {l : Launch} {e : Env} {R : Room} {s : State} {m : MethodId} {args : Array Value} {below : List Frame} {meth : Method} {c : Code} {H : Heap} {locs : List Loc} {cells slots : Nat} {Q : State → Prop}
variable {cc : ByteArray} {pc : Nat} {ls : Array Slot} {rest : List Value} {D : va_G} {cl : List vw_C} {A : Nat → Prop} {a : Nat} {tys : List (ClassId × FieldType)} {ws : va_W} {H0 : Heap}
theorem va_mna {X : va_W} {L : List Nat} {f : Nat → va_E} {cc : ByteArray} (hexec : p.tables.exec = Jvm.exec) (hb : c.code = cc) {own : String} {index : Nat} {ty : FieldType} {cy : ClassId} (hown : s.vm.findClass own = some m.cls) (hclink : (Cond.classLink own index ("[" ++ (FieldType.array ty).toString)).before args s = true) (hover : va_AOA ty s) (harr : (Cond.arrayClass ty).before args s = true) (hcy : s.vm.findClass (FieldType.array ty).toString = some cy)
    (hK : va_K D cl tys s) (hP : va_P D cl (X ++ va_pl L f) H) (hD : va_D A (X ++ va_pl L f)) (hS : va_S A H0 H locs) (hA : ∀ q, H0.size ≤ q → A q) {n k : Int32} {N' K' : Nat} {z : vp_A} (hn : ¬ n < 0) (hk : ¬ k < 0) (hN : n.toNatClampNeg = N') (hM : k.toNatClampNeg = K')
    (hb1 : N' * 4 ≤ 536870912) (hb2 : K' * componentBytes ty ≤ 536870912) (hb3 : K' ≤ 536870912) (hdf : fits ty (defaultValue ty) = true) (hdd : (defaultValue ty).isDefault = true) (hcells : cells + (1 + N') ≤ R.cells) (hslots : slots + (N' + N' * K') ≤ R.slots) (hz : ∀ c : ClassId, Jvm.Free.Multi.innerC c K' (defaultValue ty) = vp_cell c z) (hdg : decode cc pc = .ok (.multianewarray index 2, 4))
    (kk : ∀ (q : Nat) (r : Nat → Nat) (cA : ClassId) (H1 : Heap), (∀ i j : Nat, i < N' → j < N' → r i = r j → i = j) → (∀ i : Nat, i < N' → r i ∉ L) → va_K D cl (tys ++ [(cA, .array ty)]) s →
      va_P D cl ((X ++ [(q, .inl (cA, N', .inr (.inr (.inr (.inr (fun i => if i < N' then some (r i) else none))))))]) ++ va_pl (L ++ (List.range N').map r) (vr_up f ((List.range N').map r) (.inl (cy, z)))) H1 → va_D A ((X ++ [(q, .inl (cA, N', .inr (.inr (.inr (.inr (fun i => if i < N' then some (r i) else none))))))]) ++ va_pl (L ++ (List.range N').map r) (vr_up f ((List.range N').map r) (.inl (cy, z)))) → va_S A H0 H1 locs →
      W p l e R s m args below meth c H1 locs (cells + 1 + N') (slots + N' + N' * K') Q (F0 m (pc + 4) ls (.ref q :: rest))) : W p l e R s m args below meth c H locs cells slots Q (F0 m pc ls (.int k :: .int n :: rest)) := by
  subst hN
  subst hM
  intro T hT Xs
  obtain ⟨vm₁, cA, comp, -, fA, fC, hO, -, X', step⟩ := Xs.multianewarray2F hexec hown hclink (va_AOA.use hover) harr (g := F0 m pc ls (.int k :: .int n :: rest)) rfl (by rw [hb]; exact hdg) rfl hn hk hb1 hb2 hb3 hdf hdd hcells hslots
  have ec : some cy = some comp := hcy.symm.trans fC
  cases ec
  generalize hF : Jvm.Free.Multi.fill (T.setVm vm₁) cA cy n.toNatClampNeg k.toNatClampNeg (defaultValue ty) n.toNatClampNeg = F at X' step
  have hTh : (T.setVm vm₁).heap = H := hT
  obtain ⟨f1, f2, -, -⟩ := Jvm.Free.Multi.fill_facts (T.setVm vm₁) cA cy n.toNatClampNeg k.toNatClampNeg (defaultValue ty) n.toNatClampNeg
  rw [hF, hTh] at f1 f2
  have hold : ∀ x : Nat, x < H.size → F.heap[x]? = H[x]? := fun x hx => by
    have := Jvm.Free.Multi.fill_old (T.setVm vm₁) cA cy n.toNatClampNeg k.toNatClampNeg (defaultValue ty) (a := x) (by rw [hTh]; exact hx) n.toNatClampNeg
    rw [hF, hTh] at this
    exact this
  have hrow : ∀ j : Nat, j < n.toNatClampNeg → F.heap[H.size + 1 + j]? = some (vp_cell cy z) := fun j hj => by
    have := Jvm.Free.Multi.fill_inner (T.setVm vm₁) cA cy n.toNatClampNeg k.toNatClampNeg (defaultValue ty) n.toNatClampNeg j hj
    rw [hF, hTh, hz] at this
    exact this
  have hout : Jvm.Free.Multi.outerC cA n.toNatClampNeg H.size n.toNatClampNeg = vp_cell cA (n.toNatClampNeg, .inr (.inr (.inr (.inr (fun i => if i < n.toNatClampNeg then some (H.size + 1 + i) else none))))) := by
    rw [vp_cell_q]
    exact vr_outer cA n.toNatClampNeg H.size n.toNatClampNeg
  rw [hout] at f2
  have hlt : ∀ a, a ∈ L → a < H.size := fun a ha => by
    obtain ⟨k9, hk9⟩ := va_pl_get (X := X) (f := f) ha
    exact (hP k9 _ hk9).lt
  have hnl : ∀ i : Nat, i < n.toNatClampNeg → H.size + 1 + i ∉ L := fun i _ h => by
    have := hlt _ h
    omega
  have hnm : ∀ a, a ∈ (List.range n.toNatClampNeg).map (fun i => H.size + 1 + i) → a ∉ L := fun a ha h => by
    obtain ⟨i, -, rfl⟩ := List.mem_map.mp ha
    have := hlt _ h
    omega
  have hP0 : va_P D cl (X ++ va_pl L f) F.heap := hP.kept (fun k9 x hx => hold x.1 ((hP k9 x hx).lt))
  have hP1 : va_P D cl ((X ++ va_pl L f) ++ [(H.size, .inl (cA, n.toNatClampNeg, .inr (.inr (.inr (.inr (fun i => if i < n.toNatClampNeg then some (H.size + 1 + i) else none))))))]) F.heap := hP0.app (fun k9 x hx => by
    have h0 : k9 < 1 := (List.getElem?_eq_some_iff.mp hx).1
    rw [show k9 = 0 by omega] at hx
    cases hx
    exact f2)
  have hP2 : va_P D cl (((X ++ va_pl L f) ++ [(H.size, .inl (cA, n.toNatClampNeg, .inr (.inr (.inr (.inr (fun i => if i < n.toNatClampNeg then some (H.size + 1 + i) else none))))))]) ++ ((List.range n.toNatClampNeg).map (fun i => H.size + 1 + i)).map (fun a => (a, .inl (cy, z)))) F.heap := hP1.app (fun k9 x hx => by
    obtain ⟨a, ha, rfl⟩ := List.mem_map.mp (List.mem_of_getElem? hx)
    obtain ⟨i, hi, rfl⟩ := List.mem_map.mp ha
    exact hrow i (List.mem_range.mp hi))
  have hD2 : va_D A (((X ++ va_pl L f) ++ [(H.size, .inl (cA, n.toNatClampNeg, .inr (.inr (.inr (.inr (fun i => if i < n.toNatClampNeg then some (H.size + 1 + i) else none))))))]) ++ ((List.range n.toNatClampNeg).map (fun i => H.size + 1 + i)).map (fun a => (a, .inl (cy, z)))) := by
    have hD1 := hD.push (e := .inl (cA, n.toNatClampNeg, .inr (.inr (.inr (.inr (fun i => if i < n.toNatClampNeg then some (H.size + 1 + i) else none)))))) hP rfl (hA _ hS.1)
    generalize hW1 : (X ++ va_pl L f) ++ [(H.size, .inl (cA, n.toNatClampNeg, .inr (.inr (.inr (.inr (fun i => if i < n.toNatClampNeg then some (H.size + 1 + i) else none))))))] = W1 at hD1 hP1 ⊢
    have hle : ∀ (k9 : Nat) (x : Nat × va_E), W1[k9]? = some x → x.1 ≤ H.size := fun k9 x hx => by
      rw [← hW1] at hx
      by_cases hl : k9 < (X ++ va_pl L f).length
      · rw [List.getElem?_append_left hl] at hx
        exact Nat.le_of_lt ((hP k9 x hx).lt)
      · rw [List.getElem?_append_right (by omega)] at hx
        have h0 : k9 - (X ++ va_pl L f).length < 1 := (List.getElem?_eq_some_iff.mp hx).1
        rw [show k9 - (X ++ va_pl L f).length = 0 by omega] at hx
        cases hx
        exact Nat.le_refl _
    have hr : ∀ (k9 : Nat) (x : Nat × va_E), (((List.range n.toNatClampNeg).map (fun i => H.size + 1 + i)).map (fun a => ((a, .inl (cy, z)) : Nat × va_E)))[k9]? = some x → x.1 = H.size + 1 + k9 := fun k9 x hx => by
      rw [List.getElem?_map, List.getElem?_map] at hx
      by_cases h9 : k9 < n.toNatClampNeg
      · rw [List.getElem?_range h9] at hx
        cases hx
        rfl
      · have hn0 : (List.range n.toNatClampNeg)[k9]? = none := List.getElem?_eq_none (by rw [List.length_range]; omega)
        rw [hn0] at hx
        cases hx
    refine ⟨fun i j x y hi hj hxy => ?_, fun k9 x hx => ?_⟩
    · by_cases h1 : i < W1.length <;> by_cases h2 : j < W1.length
      · rw [List.getElem?_append_left h1] at hi
        rw [List.getElem?_append_left h2] at hj
        exact hD1.1 i j x y hi hj hxy
      · rw [List.getElem?_append_left h1] at hi
        rw [List.getElem?_append_right (by omega)] at hj
        have := hle _ _ hi
        have := hr _ _ hj
        omega
      · rw [List.getElem?_append_right (by omega)] at hi
        rw [List.getElem?_append_left h2] at hj
        have := hle _ _ hj
        have := hr _ _ hi
        omega
      · rw [List.getElem?_append_right (by omega)] at hi hj
        have := hr _ _ hi
        have := hr _ _ hj
        omega
    · by_cases h1 : k9 < W1.length
      · rw [List.getElem?_append_left h1] at hx
        exact hD1.2 k9 x hx
      · rw [List.getElem?_append_right (by omega)] at hx
        have := hr _ _ hx
        exact hA _ (by have := hS.1; omega)
  have hAr : ArrOfT s cA (.array ty) := fun N9 z9 => by
    obtain ⟨-, k9, hk9, cm9, hkk9⟩ := (hO 0 0 0).1
    exact ⟨(fun q hq => by cases hq), k9, hk9, cm9, hkk9⟩
  have hK2 : va_K D cl (tys ++ [(cA, .array ty)]) s := ⟨hK.1, fun k9 x hx => by
    by_cases hl : k9 < tys.length
    · rw [List.getElem?_append_left hl] at hx
      exact hK.2 k9 x hx
    · rw [List.getElem?_append_right (by omega)] at hx
      have h0 : k9 - tys.length < 1 := (List.getElem?_eq_some_iff.mp hx).1
      rw [show k9 - tys.length = 0 by omega] at hx
      cases hx
      exact ⟨hAr, fA⟩⟩
  obtain ⟨t, a1, b1⟩ := kk H.size (fun i => H.size + 1 + i) cA F.heap (fun i j _ _ h => by have h9 : H.size + 1 + i = H.size + 1 + j := h; omega) hnl hK2 (by rw [← vr_rows hnm]; exact vr_lay hP2) (by rw [← vr_rows hnm]; exact vr_layD hD2) ⟨by rw [f1]; have := hS.1; omega, fun x h1 h2 => (hold x (Nat.lt_of_lt_of_le h1 hS.1)).trans (hS.2.1 x h1 h2), hS.2.2⟩ F rfl X'
  refine ⟨t, step t ?_, b1⟩
  have e : T.heap.size = H.size := by rw [hT]
  rw [e]
  exact a1
end VGM
/-! ===== END ===== -/
/-- what a constructor may write: its own cell, and what comes -/
def AK (b sz : Nat) : Nat → Prop := fun q => q = b ∨ sz ≤ q
abbrev OKK (G : Gx) (p : Program) (s : State) (m : MethodId) (args : Array Value) (meth : Method) (c : Code) (own : String) (cc : ByteArray) (nL : Nat) (ret : Option FieldType) (A : Nat → Prop) : Prop :=
  p.tables.exec = Jvm.exec ∧ c.code = cc ∧ c.maxLocals = nL ∧ s.vm.findClass own = some m.cls ∧ (∀ w ∈ wsL_law, w.before args s = true) ∧ meth.locks = false ∧ meth.sig.returnType = ret ∧ va_K G.1 vwCl (tyl G) s ∧ SX G A s s.heap ∧ (∀ q, s.heap.size ≤ q → A q) ∧ (own = RL ∨ meth.name = "<init>") ∧ va_AO "SamovarOpinions$Sheet" s ∧ va_AOA .int s
def Kw (G : Gx) (p : Program) (l : Launch) (e : Env) (R : Room) (s : State) (m : MethodId) (args : Array Value) (below : List Frame) (meth : Method) (c : Code) (nL : Nat) (A : Nat → Prop) (cells slots : Nat) (Q : State → Prop) (ws : va_W) (pc : Nat) (lv : List (Nat × Value)) (st : List Value) : Prop :=
  ∀ (H : Heap) (locs : List Loc) (ls : Array Slot), va_P G.1 vwCl ws H → va_D A ws → va_S A s.heap H locs → lv_has ls nL lv → W p l e R s m args below meth c H locs cells slots Q (F0 m pc ls st)
def RmK (d mc ms : Nat) : Room := { frames := d, cells := mc, slots := ms, locals := 60 * d }
def PK (G : Gx) (b : Nat) (pre : va_E) (sz : Nat) (U : State) : Prop := U.heap.size = sz ∧ va_P G.1 vwCl [(b, pre)] U.heap ∧ va_K G.1 vwCl (tyl G) U ∧ SX G (AK b sz) U U.heap ∧ va_AO "SamovarOpinions$Sheet" U ∧ va_AOA .int U
def QK (G : Gx) (A : Nat → Prop) (res : (Nat → Nat) → va_W) : Array Value → State → Outcome → State → Prop := fun _ st oc t => oc = .returned none ∧ (∃ r : Nat → Nat, va_P G.1 vwCl (res r) t.heap ∧ va_D A (res r)) ∧ va_F A st t
/-- the contract of a constructor: of the cell b with pre in it (and new cells at r 0, r 1 ..) it makes res -/
def Kt (h : Nat) (y : MethodName) (bytes : ByteArray) (maxL : Nat) (mc ms : Nat) (pre : va_E) (av : List Value) (res : Gx → Nat → (Nat → Nat) → va_W) : Prop :=
  ∀ (l : Launch) (d : Nat) (G : Gx) (b sz : Nat), h ≤ d → Met l y (.code y bytes maxL none :: wsL_law) (RmK d mc ms) (va_Pc (.ref b :: av) (PK G b pre sz)) (QK G (AK b sz) (res G b)) mc ms (AK b sz)
section KROWS
variable {G : Gx} {p : Program} {l : Launch} {e : Env} {d : Nat} {s : State} {m : MethodId} {args : Array Value} {below : List Frame} {meth : Method} {c : Code} {own : String} {cc : ByteArray} {nL : Nat} {ret : Option FieldType} {A : Nat → Prop} {ws : va_W} {pc : Nat} {lv lv' : List (Nat × Value)} {st : List Value} {R : Room} {cells slots : Nat} {Q : State → Prop}
theorem K_aload_n (C : OKK G p s m args meth c own cc nL ret A) {k : Fin 4} {i : Nat} {x : Nat} (q : Nat) (hdg : decode cc pc = .ok (.aload_n k, 1)) (hi : (k : Nat) = i) (hl0 : lv[q]? = some (i, .ref x)) (k9 : Kw G p l e R s m args below meth c nL A cells slots Q ws (pc + 1) lv (.ref x :: st)) : Kw G p l e R s m args below meth c nL A cells slots Q ws pc lv st := fun H locs ls hP hD hS hl => lv_aload_n C.1 C.2.1 hdg hi (lv_at hl q hl0) (k9 H locs ls hP hD hS hl)
theorem K_iload_n (C : OKK G p s m args meth c own cc nL ret A) {k : Fin 4} {i : Nat} {x : Int32} (q : Nat) (hdg : decode cc pc = .ok (.iload_n k, 1)) (hi : (k : Nat) = i) (hl0 : lv[q]? = some (i, .int x)) (k9 : Kw G p l e R s m args below meth c nL A cells slots Q ws (pc + 1) lv (.int x :: st)) : Kw G p l e R s m args below meth c nL A cells slots Q ws pc lv st := fun H locs ls hP hD hS hl => lv_iload_n C.1 C.2.1 hdg hi (lv_at hl q hl0) (k9 H locs ls hP hD hS hl)
theorem K_astore_n (C : OKK G p s m args meth c own cc nL ret A) {k : Fin 4} {i : Nat} {x : Nat} (hdg : decode cc pc = .ok (.astore_n k, 1)) (hi : (k : Nat) = i) (hn : i < nL) (hl0 : (i, (.ref x : Value)) :: lv.filter (fun q => !(q.1 == i) && !(q.1 + 1 == i && q.2.category == 2)) = lv') (k9 : Kw G p l e R s m args below meth c nL A cells slots Q ws (pc + 1) lv' st) : Kw G p l e R s m args below meth c nL A cells slots Q ws pc lv (.ref x :: st) := fun H locs ls hP hD hS hl => lv_astore_n C.1 C.2.1 hdg hi hl hn hl0 (fun ls' hl' => k9 H locs ls' hP hD hS hl')
theorem K_istore_n (C : OKK G p s m args meth c own cc nL ret A) {k : Fin 4} {i : Nat} {x : Int32} (hdg : decode cc pc = .ok (.istore_n k, 1)) (hi : (k : Nat) = i) (hn : i < nL) (hl0 : (i, (.int x : Value)) :: lv.filter (fun q => !(q.1 == i) && !(q.1 + 1 == i && q.2.category == 2)) = lv') (k9 : Kw G p l e R s m args below meth c nL A cells slots Q ws (pc + 1) lv' st) : Kw G p l e R s m args below meth c nL A cells slots Q ws pc lv (.int x :: st) := fun H locs ls hP hD hS hl => lv_istore_n C.1 C.2.1 hdg hi hl hn hl0 (fun ls' hl' => k9 H locs ls' hP hD hS hl')
theorem K_iinc (C : OKK G p s m args meth c own cc nL ret A) {i : Nat} {n : Int} {x w : Int32} (q : Nat) (hdg : decode cc pc = .ok (.iinc i n, 3)) (hk : lv[q]? = some (i, .int x)) (hv : x + Int32.ofInt n = w) (hn : i < nL) (hl0 : (i, (.int w : Value)) :: lv.filter (fun q => !(q.1 == i) && !(q.1 + 1 == i && q.2.category == 2)) = lv') (k9 : Kw G p l e R s m args below meth c nL A cells slots Q ws (pc + 3) lv' st) : Kw G p l e R s m args below meth c nL A cells slots Q ws pc lv st := fun H locs ls hP hD hS hl => lv_iinc (k := q) C.1 C.2.1 hdg hl hk hv hn hl0 (fun ls' hl' => k9 H locs ls' hP hD hS hl')
theorem K_iconst (C : OKK G p s m args meth c own cc nL ret A) {n : Int} {w : Int32} (hdg : decode cc pc = .ok (.iconst n, 1)) (hv : Int32.ofInt n = w) (k : Kw G p l e R s m args below meth c nL A cells slots Q ws (pc + 1) lv (.int w :: st)) : Kw G p l e R s m args below meth c nL A cells slots Q ws pc lv (st) := fun H locs ls hP hD hS hl => lv_iconst C.1 C.2.1 hdg hv (k H locs ls hP hD hS hl)
theorem K_bipush (C : OKK G p s m args meth c own cc nL ret A) {n : Int} {w : Int32} (hdg : decode cc pc = .ok (.bipush n, 2)) (hv : (Int8.ofInt n).toInt32 = w) (k : Kw G p l e R s m args below meth c nL A cells slots Q ws (pc + 2) lv (.int w :: st)) : Kw G p l e R s m args below meth c nL A cells slots Q ws pc lv (st) := fun H locs ls hP hD hS hl => lv_bipush C.1 C.2.1 hdg hv (k H locs ls hP hD hS hl)
theorem K_sipush (C : OKK G p s m args meth c own cc nL ret A) {n : Int} {w : Int32} (hdg : decode cc pc = .ok (.sipush n, 3)) (hv : (Int16.ofInt n).toInt32 = w) (k : Kw G p l e R s m args below meth c nL A cells slots Q ws (pc + 3) lv (.int w :: st)) : Kw G p l e R s m args below meth c nL A cells slots Q ws pc lv (st) := fun H locs ls hP hD hS hl => lv_sipush C.1 C.2.1 hdg hv (k H locs ls hP hD hS hl)
theorem K_dup (C : OKK G p s m args meth c own cc nL ret A) {va : Value} (hdg : decode cc pc = .ok (.dup, 1)) (h1 : va.category = 1) (k : Kw G p l e R s m args below meth c nL A cells slots Q ws (pc + 1) lv (va :: va :: st)) : Kw G p l e R s m args below meth c nL A cells slots Q ws pc lv (va :: st) := fun H locs ls hP hD hS hl => lv_dup C.1 C.2.1 hdg h1 (k H locs ls hP hD hS hl)
theorem K_goto (C : OKK G p s m args meth c own cc nL ret A) {off : Int} (tgt : Nat) (hdg : decode cc pc = .ok (.goto off, 3)) (ht : (pc : Int) + off = (tgt : Int)) (k : Kw G p l e R s m args below meth c nL A cells slots Q ws tgt lv st) : Kw G p l e R s m args below meth c nL A cells slots Q ws pc lv st := fun H locs ls hP hD hS hl => lv_goto C.1 C.2.1 hdg ht (k H locs ls hP hD hS hl)
theorem K_icmp_geT (C : OKK G p s m args meth c own cc nL ret A) {x y : Int32} {off : Int} (tgt : Nat) (hdg : decode cc pc = .ok (.if_icmp .ge off, 3)) (ht : (pc : Int) + off = (tgt : Int)) (hc : y ≤ x) (k : Kw G p l e R s m args below meth c nL A cells slots Q ws tgt lv st) : Kw G p l e R s m args below meth c nL A cells slots Q ws pc lv (.int y :: .int x :: st) := fun H locs ls hP hD hS hl => lv_icmp_ge C.1 C.2.1 hdg ht (fun _ => (k H locs ls hP hD hS hl)) (fun h => absurd hc (by simpa using h))
theorem K_icmp_geF (C : OKK G p s m args meth c own cc nL ret A) {x y : Int32} {off : Int} (tgt : Nat) (hdg : decode cc pc = .ok (.if_icmp .ge off, 3)) (ht : (pc : Int) + off = (tgt : Int)) (hc : ¬ y ≤ x) (k : Kw G p l e R s m args below meth c nL A cells slots Q ws (pc + 3) lv st) : Kw G p l e R s m args below meth c nL A cells slots Q ws pc lv (.int y :: .int x :: st) := fun H locs ls hP hD hS hl => lv_icmp_ge C.1 C.2.1 hdg ht (fun h => absurd h hc) (fun _ => (k H locs ls hP hD hS hl))
theorem K_eq {ws' : va_W} (h : ws = ws') (k : Kw G p l e R s m args below meth c nL A cells slots Q ws' pc lv st) : Kw G p l e R s m args below meth c nL A cells slots Q ws pc lv st := by rw [h]; exact k
theorem K_obj (C : OKK G p s m args meth c own cc nL ret A) {idx : Nat} {a : Nat} (hw : Cond.methodLink own idx objectInit ∈ wsL_law) (hi : Cond.instanceMethod objectInit ∈ wsL_law) (hc : Cond.code objectInit ⟨#[0xb1]⟩ 1 none ∈ wsL_law) (hst : (st.map fun v => v.category).sum ≤ 8) (hf : 1 ≤ R.frames) (hlo : 20 ≤ R.locals) (hdg : decode cc pc = .ok (.invokespecial idx, 3)) (k9 : Kw G p l e R s m args below meth c nL A cells slots Q ws (pc + 3) lv st) : Kw G p l e R s m args below meth c nL A cells slots Q ws pc lv (.ref a :: st) := fun H locs ls hP hD hS hl =>
  W.objInit C.1 C.2.1 C.2.2.2.1 (C.2.2.2.2.1 _ hw) (C.2.2.2.2.1 _ hi) (C.2.2.2.2.1 _ hc) rfl (by rw [C.2.2.1]; exact hl.1) rfl hdg hf (by show 2 * 0 + (st.map fun v => v.category).sum + 12 ≤ R.locals; omega) (k9 H locs ls hP hD hS hl)
theorem K_new (C : OKK G p s m args meth c own cc nL ret A) {C0 : String} {T : u_T} {N ci index : Nat} {fs : List Value} (ty : Nat → FieldType) (hin : ∀ w ∈ u_ws C0 T N, w ∈ wsL_law) (hty : ∀ k, k < N → parseFieldDescriptor (T k).2.2.1 = some (ty k)) (hcl : Cond.classLink own index C0 ∈ wsL_law) (hinst : Cond.instantiable C0 N ∈ wsL_law) (hini : Cond.initialized C0 ∈ wsL_law) (hc : vwCl[ci]? = some (C0, T, N)) (hfs : ∀ j, j < N → defaultValue (ty j) = vp_V fs j) (hcells : cells + 1 ≤ R.cells) (hslots : slots + N ≤ R.slots) (hdg : decode cc pc = .ok (.new index, 3)) (k9 : ∀ q : Nat, Kw G p l e R s m args below meth c nL A (cells + 1) (slots + N) Q (ws ++ [(q, .inr (ci, fs))]) (pc + 3) lv (.ref q :: st)) : Kw G p l e R s m args below meth c nL A cells slots Q ws pc lv st := fun H locs ls hP hD hS hl =>
  va_new C.1 C.2.1 C.2.2.2.2.1 hin ty hty C.2.2.2.1 (C.2.2.2.2.1 _ hcl) (C.2.2.2.2.1 _ hinst) (C.2.2.2.2.1 _ hini) C.2.2.2.2.2.2.2.1 hP hD hS C.2.2.2.2.2.2.2.2.2.1 hc hfs hcells hslots hdg (fun q H1 hP1 hD1 hS1 => k9 q H1 locs ls hP1 hD1 hS1 hl)
theorem K_newI (C : OKK G p s m args meth c own cc nL ret A) {n : Int32} {N : Nat} (hw : Cond.arrayClass .int ∈ wsL_law) (hn : ¬ n < 0) (hN : n.toNatClampNeg = N) (hb : N ≤ 1000) (hcells : cells + 1 ≤ R.cells) (hslots : slots + N ≤ R.slots) (hdg : decode cc pc = .ok (.newarray .int, 2)) (k9 : ∀ q : Nat, Kw G p l e R s m args below meth c nL A (cells + 1) (slots + N) Q (ws ++ [(q, .inl (G.2.2.1 0, N, .inl (fun _ => 0)))]) (pc + 2) lv (.ref q :: st)) : Kw G p l e R s m args below meth c nL A cells slots Q ws pc lv (.int n :: st) := fun H locs ls hP hD hS hl =>
  va_newa (atype := .int) (a0 := (N, .inl (fun _ => 0))) C.1 C.2.1 (C.2.2.2.2.1 _ hw) rfl C.2.2.2.2.2.2.2.1 hP hD hS C.2.2.2.2.2.2.2.2.2.1 (fun cA => rfl) hn hN (show N * 4 ≤ 536870912 by omega) hcells hslots hdg (fun q cA H1 hK1 hP1 hD1 hS1 => by
    have e1 : s.vm.findClass ("[" ++ (FieldType.int).toString) = some cA := (hK1.2 4 (cA, .int) rfl).2
    have e2 : s.vm.findClass ("[" ++ (FieldType.int).toString) = some (G.2.2.1 0) := (C.2.2.2.2.2.2.2.1.2 0 _ rfl).2
    obtain rfl : G.2.2.1 0 = cA := Option.some.inj (e2.symm.trans e1)
    exact k9 q H1 locs ls hP1 hD1 hS1 hl)
theorem K_newZ (C : OKK G p s m args meth c own cc nL ret A) {n : Int32} {N : Nat} (hw : Cond.arrayClass .boolean ∈ wsL_law) (hn : ¬ n < 0) (hN : n.toNatClampNeg = N) (hb : N ≤ 1000) (hcells : cells + 1 ≤ R.cells) (hslots : slots + N ≤ R.slots) (hdg : decode cc pc = .ok (.newarray .boolean, 2)) (k9 : ∀ q : Nat, Kw G p l e R s m args below meth c nL A (cells + 1) (slots + N) Q (ws ++ [(q, .inl (G.2.2.1 1, N, .inl (fun _ => 0)))]) (pc + 2) lv (.ref q :: st)) : Kw G p l e R s m args below meth c nL A cells slots Q ws pc lv (.int n :: st) := fun H locs ls hP hD hS hl =>
  va_newa (atype := .boolean) (a0 := (N, .inl (fun _ => 0))) C.1 C.2.1 (C.2.2.2.2.1 _ hw) rfl C.2.2.2.2.2.2.2.1 hP hD hS C.2.2.2.2.2.2.2.2.2.1 (fun cA => rfl) hn hN (show N * 1 ≤ 536870912 by omega) hcells hslots hdg (fun q cA H1 hK1 hP1 hD1 hS1 => by
    have e1 : s.vm.findClass ("[" ++ (FieldType.boolean).toString) = some cA := (hK1.2 4 (cA, .boolean) rfl).2
    have e2 : s.vm.findClass ("[" ++ (FieldType.boolean).toString) = some (G.2.2.1 1) := (C.2.2.2.2.2.2.2.1.2 1 _ rfl).2
    obtain rfl : G.2.2.1 1 = cA := Option.some.inj (e2.symm.trans e1)
    exact k9 q H1 locs ls hP1 hD1 hS1 hl)
theorem K_newQ (C : OKK G p s m args meth c own cc nL ret A) {n : Int32} {N index : Nat} (hcl : Cond.classLink own index "SamovarOpinions$Sheet" ∈ wsL_law) (hn : ¬ n < 0) (hN : n.toNatClampNeg = N) (hb : N ≤ 1000) (hcells : cells + 1 ≤ R.cells) (hslots : slots + N ≤ R.slots) (hao : va_AO "SamovarOpinions$Sheet" s) (hdg : decode cc pc = .ok (.anewarray index, 3)) (k9 : ∀ q : Nat, Kw G p l e R s m args below meth c nL A (cells + 1) (slots + N) Q (ws ++ [(q, .inl (G.2.2.1 3, N, .inr (.inr (.inr (.inr (fun _ => none))))))]) (pc + 3) lv (.ref q :: st)) : Kw G p l e R s m args below meth c nL A cells slots Q ws pc lv (.int n :: st) := fun H locs ls hP hD hS hl =>
  va_newq C.1 C.2.1 C.2.2.2.1 (C.2.2.2.2.1 _ hcl) hao C.2.2.2.2.2.2.2.1 hP hD hS C.2.2.2.2.2.2.2.2.2.1 hn hN (show N * 4 ≤ 536870912 by omega) hcells hslots hdg (fun q cA H1 hK1 hP1 hD1 hS1 => by
    obtain ⟨k1, q1, -, -, -, e1⟩ := (hK1.2 4 (cA, .object "SamovarOpinions$Sheet") rfl).2
    obtain ⟨k2, q2, -, -, -, e2⟩ := (C.2.2.2.2.2.2.2.1.2 3 _ rfl).2
    obtain rfl : G.2.2.1 3 = cA := Option.some.inj (e2.symm.trans e1)
    exact k9 q H1 locs ls hP1 hD1 hS1 hl)
theorem K_put (C : OKK G p s m args meth c own cc nL ret A) {a q0 k ci index : Nat} {v : Value} {fs : List Value} {ref : String} {T : u_T} {N : Nat} {C0 : String} {ty : FieldType} (ty0 : Nat → FieldType) (he : ws[q0]? = some (a, .inr (ci, fs))) (hcl : vwCl[ci]? = some (C0, T, N)) (hin : ∀ w ∈ u_ws C0 T N, w ∈ wsL_law) (hty : ∀ k, k < N → parseFieldDescriptor (T k).2.2.1 = some (ty0 k)) (hnm : ∀ a, a < N → ∀ b, b < N → a ≠ b → (T a).2.1 ≠ (T b).2.1) (hk : k < N) (hT : (T k).1 = ref) (hfin : (T k).2.2.2 = false) (hd : ty0 k = ty) (hn : narrow ty v = v) (hfit : fits ty v = true) (hl0 : k < fs.length) (hw : Cond.fieldLink own index ref (T k).2.1 (T k).2.2.1 ∈ wsL_law) (hdg : decode cc pc = .ok (.putfield index, 3)) (k9 : Kw G p l e R s m args below meth c nL A cells slots Q (ws.set q0 (a, .inr (ci, fs.set k v))) (pc + 3) lv st) : Kw G p l e R s m args below meth c nL A cells slots Q ws pc lv (v :: .ref a :: st) := fun H locs ls hP hD hS hl =>
  va_put C.1 C.2.1 C.2.2.2.2.1 hin ty0 hty hnm C.2.2.2.1 C.2.2.2.2.2.2.2.1 hP hD hS q0 he hcl k hk (C.2.2.2.2.1 _ hw) (fun x hx => by rw [← hT]; exact hx) hfin (hty k hk) (by rw [hd]; exact hn) (by rw [hd]; exact hfit) hl0 hdg (fun H1 locs1 hP1 hD1 hS1 => k9 H1 locs1 ls hP1 hD1 hS1 hl)
theorem K_putF (C : OKK G p s m args meth c own cc nL ret A) {a q0 k ci index : Nat} {v : Value} {fs : List Value} {ref : String} {T : u_T} {N : Nat} {C0 : String} {ty : FieldType} (ty0 : Nat → FieldType) (he : ws[q0]? = some (a, .inr (ci, fs))) (hcl : vwCl[ci]? = some (C0, T, N)) (hin : ∀ w ∈ u_ws C0 T N, w ∈ wsL_law) (hty : ∀ k, k < N → parseFieldDescriptor (T k).2.2.1 = some (ty0 k)) (hnm : ∀ a, a < N → ∀ b, b < N → a ≠ b → (T a).2.1 ≠ (T b).2.1) (hk : k < N) (hT : (T k).1 = ref) (hfin : (T k).2.2.2 = true) (hne : own ≠ RL) (hdecl : (T k).1 = own) (hd : ty0 k = ty) (hn : narrow ty v = v) (hfit : fits ty v = true) (hl0 : k < fs.length) (hw : Cond.fieldLink own index ref (T k).2.1 (T k).2.2.1 ∈ wsL_law) (hdg : decode cc pc = .ok (.putfield index, 3)) (k9 : Kw G p l e R s m args below meth c nL A cells slots Q (ws.set q0 (a, .inr (ci, fs.set k v))) (pc + 3) lv st) : Kw G p l e R s m args below meth c nL A cells slots Q ws pc lv (v :: .ref a :: st) := fun H locs ls hP hD hS hl =>
  va_putF C.1 C.2.1 C.2.2.2.2.1 hin ty0 hty hnm C.2.2.2.1 C.2.2.2.2.2.2.2.1 hP hD hS q0 he hcl k hk (C.2.2.2.2.1 _ hw) (fun x hx => by rw [← hT]; exact hx) hfin (C.2.2.2.2.2.2.2.2.2.2.1.resolve_left hne) hdecl (hty k hk) (by rw [hd]; exact hn) (by rw [hd]; exact hfit) hl0 hdg (fun H1 locs1 hP1 hD1 hS1 => k9 H1 locs1 ls hP1 hD1 hS1 hl)
theorem K_get (C : OKK G p s m args meth c own cc nL ret A) {a q0 k ci index : Nat} {v : Value} {fs : List Value} {ref : String} {T : u_T} {N : Nat} {C0 : String} (he : ws[q0]? = some (a, .inr (ci, fs))) (hcl : vwCl[ci]? = some (C0, T, N)) (hin : ∀ w ∈ u_ws C0 T N, w ∈ wsL_law) (hk : k < N) (hT : (T k).1 = ref) (hw : Cond.fieldLink own index ref (T k).2.1 (T k).2.2.1 ∈ wsL_law) (hv : fs[k]? = some v) (hdg : decode cc pc = .ok (.getfield index, 3)) (k9 : Kw G p l e R s m args below meth c nL A cells slots Q ws (pc + 3) lv (v :: st)) : Kw G p l e R s m args below meth c nL A cells slots Q ws pc lv (.ref a :: st) := fun H locs ls hP hD hS hl =>
  va_get C.1 C.2.1 C.2.2.2.2.1 hin C.2.2.2.1 C.2.2.2.2.2.2.2.1 hP q0 he hcl k hk (C.2.2.2.2.1 _ hw) (fun x hx => by rw [← hT]; exact hx) hv hdg (k9 H locs ls hP hD hS hl)
theorem K_alen (C : OKK G p s m args meth c own cc nL ret A) {a q0 N : Nat} {f : Nat → Option Nat} {w : Int32} (he : ws[q0]? = some (a, .inl (G.2.2.1 3, N, .inr (.inr (.inr (.inr f)))))) (hv : Int32.ofNat N = w) (hdg : decode cc pc = .ok (.arraylength, 1)) (k9 : Kw G p l e R s m args below meth c nL A cells slots Q ws (pc + 1) lv (.int w :: st)) : Kw G p l e R s m args below meth c nL A cells slots Q ws pc lv (.ref a :: st) := fun H locs ls hP hD hS hl =>
  va_alen (x := (N, .inr (.inr (.inr (.inr f))))) C.1 C.2.1 C.2.2.2.2.2.2.2.1 hP q0 3 he rfl hv hdg (k9 H locs ls hP hD hS hl)
theorem K_aast (C : OKK G p s m args meth c own cc nL ret A) {a b q0 qk N ci : Nat} {vs : List Value} {f : Nat → Option Nat} {i : Int32} {T : u_T} {Nc : Nat} (he : ws[q0]? = some (a, .inl (G.2.2.1 3, N, .inr (.inr (.inr (.inr f)))))) (hv : ws[qk]? = some (b, .inr (ci, vs))) (hc : vwCl[ci]? = some ("SamovarOpinions$Sheet", T, Nc)) (hi : vp_in i N) (hdg : decode cc pc = .ok (.aastore, 1)) (k9 : Kw G p l e R s m args below meth c nL A cells slots Q (ws.set q0 (a, .inl (G.2.2.1 3, N, .inr (.inr (.inr (.inr (va_up f i.toNatClampNeg (some b)))))))) (pc + 1) lv st) : Kw G p l e R s m args below meth c nL A cells slots Q ws pc lv (.ref b :: .int i :: .ref a :: st) := fun H locs ls hP hD hS hl =>
  va_astq (r := ("SamovarOpinions$Sheet", T, Nc)) C.1 C.2.1 C.2.2.2.2.2.2.2.1 hP hD hS q0 3 qk ci he rfl hv hc hi hdg (fun H1 locs1 hP1 hD1 hS1 => k9 H1 locs1 ls hP1 hD1 hS1 hl)
theorem vr_all {v : va_E} {l : List Nat} : vr_up (fun _ => v) l v = fun _ => v := by
  funext a
  unfold vr_up
  split <;> rfl
theorem K_mna (C : OKK G p s m args meth c own cc nL ret A) {n k : Int32} {N K index : Nat} (hcl : Cond.classLink own index "[[I" ∈ wsL_law) (hao : va_AOA .int s) (hw : Cond.arrayClass .int ∈ wsL_law) (hn : ¬ n < 0) (hk : ¬ k < 0) (hN : n.toNatClampNeg = N) (hM : k.toNatClampNeg = K) (hb : N ≤ 1000 ∧ K ≤ 1000) (hcells : cells + (1 + N) ≤ R.cells) (hslots : slots + (N + N * K) ≤ R.slots) (hdg : decode cc pc = .ok (.multianewarray index 2, 4)) (k9 : ∀ (q : Nat) (r : Nat → Nat), Kw G p l e R s m args below meth c nL A (cells + 1 + N) (slots + N + N * K) Q (ws ++ (q, .inl (G.2.2.1 2, N, .inr (.inr (.inr (.inr (fun i => if i < N then some (r i) else none)))))) :: (List.range N).map (fun i => (r i, .inl (G.2.2.1 0, K, .inl (fun _ => 0))))) (pc + 4) lv (.ref q :: st)) : Kw G p l e R s m args below meth c nL A cells slots Q ws pc lv (.int k :: .int n :: st) := fun H locs ls hP hD hS hl =>
  va_mna (X := ws) (L := []) (f := fun _ => .inl (G.2.2.1 0, K, .inl (fun _ => 0))) (z := (K, .inl (fun _ => 0))) (ty := .int) (cy := G.2.2.1 0) C.1 C.2.1 C.2.2.2.1 (C.2.2.2.2.1 _ hcl) hao (C.2.2.2.2.1 _ hw) ((C.2.2.2.2.2.2.2.1.2 0 _ rfl).2) C.2.2.2.2.2.2.2.1 (by simpa [va_pl] using hP) (by simpa [va_pl] using hD) hS C.2.2.2.2.2.2.2.2.2.1 hn hk hN hM (by omega) (show K * 4 ≤ 536870912 by omega) (by omega) rfl rfl hcells hslots (fun c => by
    show ({ cls := c, slots := Array.replicate K (.int 0), vm := .none } : Cell) = arrV c K (fun _ => .int 0)
    rw [arrV_new]) hdg (fun q r cA H1 hr hr2 hK1 hP1 hD1 hS1 => by
    have e1 : s.vm.findClass ("[" ++ (FieldType.array .int).toString) = some cA := (hK1.2 4 (cA, .array .int) rfl).2
    have e2 : s.vm.findClass ("[" ++ (FieldType.array .int).toString) = some (G.2.2.1 2) := (C.2.2.2.2.2.2.2.1.2 2 _ rfl).2
    obtain rfl : G.2.2.1 2 = cA := Option.some.inj (e2.symm.trans e1)
    rw [vr_all] at hP1 hD1
    refine k9 q r H1 locs ls ?_ ?_ hS1 hl
    · simpa [va_pl, List.map_map, Function.comp_def] using hP1
    · simpa [va_pl, List.map_map, Function.comp_def] using hD1)
theorem PK_blind {b sz : Nat} {pre : va_E} {av : List Value} : FrameBlind (va_Pc av (PK G b pre sz)) := by
  intro a U g mk h
  obtain ⟨h1, h2, h3, h4, h5, h6, h7⟩ := h
  exact ⟨h1, h2, h3, va_K.moved (u := U) (U := U.calling g mk a) (Vm.Alike.refl U.vm) h4, SX.same (u := U) (U := U.calling g mk a) rfl h5, va_AO.moved (u := U) (U := U.calling g mk a) (Vm.Alike.refl U.vm) h6, va_AOA.moved (u := U) (U := U.calling g mk a) (Vm.Alike.refl U.vm) h7⟩
theorem K_back (C : OKK G p s m args meth c own cc nL ret A) {b mc ms : Nat} {pre : va_E} {As : Array Value} {res : (Nat → Nat) → va_W} {st0 : List Value} {H : Heap} {locs : List Loc} {ls : Array Slot} (hP : va_P G.1 vwCl (ws ++ [(b, pre)]) H) (hD : va_D A (ws ++ [(b, pre)])) (hS : va_S A s.heap H locs) (hl : lv_has ls nL lv)
    (hr : va_Run p l e R s m args below meth c H locs cells slots mc ms (F0 m pc ls st0) st (QK G (AK b H.size) res As) (AK b H.size)) (k : ∀ r : Nat → Nat, Kw G p l e R s m args below meth c nL A (cells + mc) (slots + ms) Q (ws ++ res r) (pc + 3) lv st) : W p l e R s m args below meth c H locs cells slots Q (F0 m pc ls st0) := by
  have hbA : A b := hD.2 ws.length (b, pre) (by simp)
  have hA : ∀ q, AK b H.size q → A q := fun q h => by
    rcases h with rfl | h
    · exact hbA
    · exact C.2.2.2.2.2.2.2.2.2.1 q (Nat.le_trans hS.1 h)
  intro T hT X
  obtain ⟨v1, st₀, t, T', L, h0, X', hL, e1, e2, ⟨hv, ⟨r, hP1, hD1⟩, hz, hk⟩, stp⟩ := hr T hT X
  cases hv
  rw [h0] at hz hk
  rw [← e1] at hP1 hz hk
  have hold : ∀ (i : Nat) (q : Nat × va_E), ws[i]? = some q → q.1 < H.size ∧ ¬ AK b H.size q.1 := fun i q hq => by
    have hl2 : i < ws.length := (List.getElem?_eq_some_iff.mp hq).1
    have hq2 : (ws ++ [(b, pre)])[i]? = some q := by rw [List.getElem?_append_left hl2]; exact hq
    have hlt := (hP i q hq2).lt
    refine ⟨hlt, fun z => ?_⟩
    rcases z with z | z
    · have := hD.1 i ws.length q (b, pre) hq2 (by simp) z
      omega
    · omega
  obtain ⟨t2, a1, b1⟩ := k r T'.heap (locs ++ L) ls (va_P.app (fun i q hq => by
      have hl2 : i < ws.length := (List.getElem?_eq_some_iff.mp hq).1
      have hq2 : (ws ++ [(b, pre)])[i]? = some q := by rw [List.getElem?_append_left hl2]; exact hq
      exact (hP i q hq2).kept (hk q.1 (hold i q hq).1 (hold i q hq).2)) hP1) (va_D.app ⟨fun i j x y hx hy hxy => by
      have h1 : (ws ++ [(b, pre)])[i]? = some x := by rw [List.getElem?_append_left (List.getElem?_eq_some_iff.mp hx).1]; exact hx
      have h2 : (ws ++ [(b, pre)])[j]? = some y := by rw [List.getElem?_append_left (List.getElem?_eq_some_iff.mp hy).1]; exact hy
      exact hD.1 i j x y h1 h2 hxy, fun i x hx => hD.2 i x (by rw [List.getElem?_append_left (List.getElem?_eq_some_iff.mp hx).1]; exact hx)⟩ (hD1.weaken (fun _ q _ h => hA q.1 h)) (fun i j x y hx hy hxy => (hold i x hx).2 (by rw [hxy]; exact hD1.2 j y hy))) ⟨Nat.le_trans hS.1 hz, fun q h1 h2 => by rw [hk q (Nat.lt_of_lt_of_le h1 hS.1) (fun z => h2 (hA q z))]; exact hS.2.1 q h1 h2, fun q hq => by
      rcases List.mem_append.mp hq with h | h
      · exact hS.2.2 q h
      · exact hA _ (hL q h)⟩ hl T' rfl X'
  exact ⟨t2, stp t2 a1, b1⟩
theorem K_pre (C : OKK G p s m args meth c own cc nL ret A) {b : Nat} {pre : va_E} {H : Heap} {locs : List Loc} (hP : va_P G.1 vwCl (ws ++ [(b, pre)]) H) (hD : va_D A (ws ++ [(b, pre)])) (hS : va_S A s.heap H locs) : ∀ U : State, U.heap = H → s.WarmedH U.vm → PK G b pre H.size U := fun U hU hW => by
  have hbA : A b := hD.2 ws.length (b, pre) (by simp)
  have hA : ∀ q, AK b H.size q → A q := fun q h => by
    rcases h with rfl | h
    · exact hbA
    · exact C.2.2.2.2.2.2.2.2.2.1 q (Nat.le_trans hS.1 h)
  refine ⟨by rw [hU], ?_, va_K.moved hW.alike C.2.2.2.2.2.2.2.1, ?_, va_AO.moved hW.alike C.2.2.2.2.2.2.2.2.2.2.2.1, va_AOA.moved hW.alike C.2.2.2.2.2.2.2.2.2.2.2.2⟩
  · rw [hU]
    intro k q hq
    have h0 : k < 1 := (List.getElem?_eq_some_iff.mp hq).1
    rw [show k = 0 by omega] at hq
    exact hP ws.length q (by simpa using hq)
  · rw [hU]
    exact SX.warm hW ((C.2.2.2.2.2.2.2.2.1.kept hS.2.1).narrow hA)
/-- a constructor called: its words by methodLink (F) or between nest mates (N) -/
theorem K_init (C : OKK G p s m args meth c own cc nL ret A) {h b n maxL mc ms index : Nat} {y : MethodName} {bytes : ByteArray} {pre : va_E} {av : List Value} {res : Gx → Nat → (Nat → Nat) → va_W} {st0 : List Value} (hct : Kt h y bytes maxL mc ms pre av res) (hmw : MW y bytes maxL none n) (hy : y.name = "<init>") (hin : Cond.instanceMethod y ∈ wsL_law) (hw : Cond.methodLink own index y ∈ wsL_law) (hn : av.length = n) (hst0 : st0 = av.reverse ++ .ref b :: st) (hst : (st.map fun v => v.category).sum ≤ 8) (hf : h + 1 ≤ R.frames) (hlo : 8 + (maxL + 11) + 60 * h ≤ R.locals) (hcells : cells + mc ≤ R.cells) (hslots : slots + ms ≤ R.slots) (hdg : decode cc pc = .ok (.invokespecial index, 3)) (k9 : ∀ r : Nat → Nat, Kw G p l e R s m args below meth c nL A (cells + mc) (slots + ms) Q (ws ++ res G b r) (pc + 3) lv st) : Kw G p l e R s m args below meth c nL A cells slots Q (ws ++ [(b, pre)]) pc lv st0 := by
  intro H locs ls hP hD hS hl
  have hM := hct l h G b H.size (Nat.le_refl _)
  exact K_back C hP hD hS hl (va_runI (As := av) (rest := st) (n := n) ⟨C.1, C.2.1, C.2.2.1, C.2.2.2.1, C.2.2.2.2.1⟩ hM ⟨callB_of n C.2.2.2.2.1 hmw.good rfl rfl rfl (C.2.2.2.2.1 _ hmw.2.1) (C.2.2.2.2.1 _ hw) hmw.2.2.1 ⟨hf, hlo⟩, hy, C.2.2.2.2.1 _ hin⟩ ⟨PK_blind, fun U hU hW => ⟨rfl, K_pre C hP hD hS U hU hW⟩⟩ rfl hn hl.1 hst0 (lv_room hst) hdg ⟨hcells, hslots⟩) k9
theorem K_initN (C : OKK G p s m args meth c own cc nL ret A) {h b n maxL mc ms index : Nat} {y : MethodName} {host : String} {bytes : ByteArray} {pre : va_E} {av : List Value} {res : Gx → Nat → (Nat → Nat) → va_W} {st0 : List Value} (hct : Kt h y bytes maxL mc ms pre av res) (hmw : MW y bytes maxL none n) (hy : y.name = "<init>") (hin : Cond.instanceMethod y ∈ wsL_law) (hw : Cond.methodLinkNest own index y host ∈ nws) (hn : av.length = n) (hst0 : st0 = av.reverse ++ .ref b :: st) (hst : (st.map fun v => v.category).sum ≤ 8) (hf : h + 1 ≤ R.frames) (hlo : 8 + (maxL + 11) + 60 * h ≤ R.locals) (hcells : cells + mc ≤ R.cells) (hslots : slots + ms ≤ R.slots) (hdg : decode cc pc = .ok (.invokespecial index, 3)) (k9 : ∀ r : Nat → Nat, Kw G p l e R s m args below meth c nL A (cells + mc) (slots + ms) Q (ws ++ res G b r) (pc + 3) lv st) : Kw G p l e R s m args below meth c nL A cells slots Q (ws ++ [(b, pre)]) pc lv st0 := by
  intro H locs ls hP hD hS hl
  have hM := hct l h G b H.size (Nat.le_refl _)
  exact K_back C hP hD hS hl (va_runIN (As := av) (rest := st) (n := n) ⟨C.1, C.2.1, C.2.2.1, C.2.2.2.1, C.2.2.2.2.1⟩ hM ⟨va_cnB n C.2.2.2.2.1 hmw.good rfl rfl rfl (C.2.2.2.2.2.2.2.2.1.2.2.2.1 _ hw) (C.2.2.2.2.1 _ hmw.2.1) hmw.2.2.1 ⟨hf, hlo⟩, hy, C.2.2.2.2.1 _ hin⟩ ⟨PK_blind, fun U hU hW => ⟨rfl, K_pre C hP hD hS U hU hW⟩⟩ rfl hn hl.1 hst0 (lv_room hst) hdg ⟨hcells, hslots⟩) k9
end KROWS
/-- a constructor's contract out of the walk of its body -/
theorem Kt.of {h maxL n mc ms : Nat} {y : MethodName} {bytes : ByteArray} {pre : va_E} {av : List Value} {res : Gx → Nat → (Nat → Nat) → va_W} (hmw : MW y bytes maxL none n) (hy : plainName y.cls = true) (hname : y.name = "<init>") (hlen : ∀ b, (lg_sl (.ref b :: av)).length ≤ maxL)
    (body : ∀ (G : Gx) (p : Program) (l : Launch) (e : Env) (d b : Nat) (s : State) (m : MethodId) (args : Array Value) (below : List Frame) (meth : Method) (c : Code), h ≤ d → OKK G p s m args meth c y.cls bytes maxL none (AK b s.heap.size) → Kw G p l e (RmK d mc ms) s m args below meth c maxL (AK b s.heap.size) 0 0 (MQ below (QK G (AK b s.heap.size) (res G b)) args s mc ms (AK b s.heap.size)) [(b, pre)] 0 (lv_args 0 (.ref b :: av)) []) : Kt h y bytes maxL mc ms pre av res := by
  intro l d G b sz hd
  refine Met.ofW (cc := bytes) (maxL := maxL) (ret := none) hy rfl ?_
  intro p e s m args below meth c s₁ B hml hv
  obtain ⟨rfl, hsz, hP, hK, hX, hao, haoa⟩ := hv
  subst hsz
  have hts := atoms_spec (ws := .code y bytes maxL none :: wsL_law) B.pre
  have hown : s.vm.findClass y.cls = some m.cls := findClass_of_methodNamed B.named
  have hin : meth.name = "<init>" := (name_of_methodNamed B.named B.method).1.trans hname
  have hl := lv_entry (.ref b :: av) (n := maxL) (hlen b)
  rw [lg_entry_eq]
  refine body G p l e d b s m _ below meth c hd ⟨B.exec, B.bytes, hml, hown, fun w hw => hts w (List.mem_cons_of_mem _ hw), B.notSynchronized, B.returns, hK, hX, fun q h => Or.inr h, Or.inr hin, hao, haoa⟩ s.heap [] _ hP ⟨fun i j p q h1 h2 _ => ?_, fun k q h => ?_⟩ va_S.rf hl
  · have h3 : i < 1 := (List.getElem?_eq_some_iff.mp h1).1
    have h4 : j < 1 := (List.getElem?_eq_some_iff.mp h2).1
    omega
  · have h3 : k < 1 := (List.getElem?_eq_some_iff.mp h).1
    rw [show k = 0 by omega] at h
    cases h
    exact Or.inl rfl
theorem K_ret {G : Gx} {p : Program} {l : Launch} {e : Env} {d mc ms b : Nat} {s : State} {m : MethodId} {args : Array Value} {below : List Frame} {meth : Method} {c : Code} {own : String} {cc : ByteArray} {nL : Nat} {res : (Nat → Nat) → va_W} {ws : va_W} {pc : Nat} {lv : List (Nat × Value)} {cells slots : Nat} (C : OKK G p s m args meth c own cc nL none (AK b s.heap.size)) (r : Nat → Nat) (he : ws = res r) (hc : cells ≤ mc) (hs : slots ≤ ms) (hdg : decode cc pc = .ok (.return_, 1)) : Kw G p l e (RmK d mc ms) s m args below meth c nL (AK b s.heap.size) cells slots (MQ below (QK G (AK b s.heap.size) res) args s mc ms (AK b s.heap.size)) ws pc lv [] := fun H locs ls hP hD hS hl => by
  subst he
  refine W.widen hc hs ?_
  exact W.vret C.1 C.2.1 C.2.2.2.2.2.2.1 (fun t ht _ => ⟨rfl, ⟨r, by rw [ht]; exact hP, hD⟩, hS.F ht⟩) hS.2.2 hdg C.2.2.2.2.2.1
