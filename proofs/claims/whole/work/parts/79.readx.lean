/-- the draft: codes written so far -/
def WrX (kk : Nat) (l : List Int32) (σ : St) : Prop := kk < 6 ∧ σ.1 13 5 = nI kk ∧ σ.1 23 kk = nI l.length ∧ ∀ j, j < l.length → σ.1 (15 + kk) j = l.getD j 0
def FrW (kk : Nat) (σ σ' : St) : Prop := ∀ a b, ¬ (a = 11 ∧ 2 ≤ b) → a ≠ 15 + kk → ¬ (a = 23 ∧ b = kk) → σ'.1 a b = σ.1 a b
theorem FrW.refl (kk : Nat) (σ : St) : FrW kk σ σ := fun _ _ _ _ _ => rfl
theorem FrW.trans {kk : Nat} {a b c : St} (h1 : FrW kk a b) (h2 : FrW kk b c) : FrW kk a c := fun i j p q r => (h2 i j p q r).trans (h1 i j p q r)
theorem FrL.w {kk : Nat} {σ σ' : St} (h : FrL σ σ') : FrW kk σ σ' := fun a b p _ _ => h a b p
theorem rT {k : Nat} (h : k < 6) : rfX 14 k = 15 + k := by
  rcases (show k = 0 ∨ k = 1 ∨ k = 2 ∨ k = 3 ∨ k = 4 ∨ k = 5 by omega) with rfl | rfl | rfl | rfl | rfl | rfl <;> rfl
theorem aT {k : Nat} (h : k < 6) : isA shX (15 + k) 20 := by
  rcases (show k = 0 ∨ k = 1 ∨ k = 2 ∨ k = 3 ∨ k = 4 ∨ k = 5 by omega) with rfl | rfl | rfl | rfl | rfl | rfl <;> decide
theorem lT {k : Nat} (h : k < 6) : lnX (15 + k) = 160 := by
  rcases (show k = 0 ∨ k = 1 ∨ k = 2 ∨ k = 3 ∨ k = 4 ∨ k = 5 by omega) with rfl | rfl | rfl | rfl | rfl | rfl <;> rfl
theorem fullX {kk : Nat} (h : kk < 6) {σ : St} (h5 : σ.1 13 5 = nI kk) : X8_isFull σ = some 0 := by
  unfold X8_isFull
  rw [h5, if_neg (nI_pos (by omega)), if_pos (show nI kk < 6 from nI_lt h (by decide))]
theorem getD_app1 {l : List Int32} {x : Int32} {j : Nat} (h : j < l.length) : (l ++ [x]).getD j 0 = l.getD j 0 := by
  simp [List.getD, List.getElem?_append_left h]
theorem getD_app2 {l : List Int32} {x : Int32} : (l ++ [x]).getD l.length 0 = x := by
  simp [List.getD]
theorem writeX {kk : Nat} {l : List Int32} {σ : St} (h : WrX kk l σ) (hl : l.length < 160) (c : Int32) : ∃ σ', X8_write c σ = some (1, σ') ∧ WrX kk (l ++ [c]) σ' ∧ ∀ a b, a ≠ 15 + kk → ¬ (a = 23 ∧ b = kk) → σ'.1 a b = σ.1 a b := by
  obtain ⟨h1, h2, h3, h4⟩ := h
  have o6 : ¬ ob (nI kk) 6 := by rw [ob_iff (by decide), tiI (by omega)]; omega
  have q1 : (up σ (15 + kk) l.length c).1 13 5 = nI kk := (up_lo (by omega)).trans h2
  have q2 : (up σ (15 + kk) l.length c).1 23 kk = nI l.length := (up_lo (by omega)).trans h3
  refine ⟨up (up σ (15 + kk) l.length c) 23 kk (nI (l.length + 1)), ?_, ⟨h1, (up_lo (by decide)).trans q1, ?_, fun j hj => ?_⟩, fun a b p q => ?_⟩
  · unfold X8_write
    rw [fullX h1 h2, Option.bind_some, if_pos rfl, h2, if_neg o6]
    simp only [tnI (show kk < 2 ^ 31 by omega), h3, tnI (show l.length < 2 ^ 31 by omega), rT h1]
    rw [if_neg (nI_pos (by omega)), if_neg o6, if_pos (show nI l.length < 160 from nI_lt hl (by decide)), if_neg o6, if_neg o6, if_pos (aT h1), lT h1, if_neg (show ¬ ob (nI l.length) 160 by rw [ob_iff (by decide), tiI (by omega)]; omega), q1, if_neg o6, if_neg o6, tnI (by omega), q2, nI_1]
  · rw [up_eq, List.length_append, List.length_singleton]
  · rw [up_lo (by omega)]
    rw [List.length_append, List.length_singleton] at hj
    by_cases z : j = l.length
    · subst z
      rw [up_eq, getD_app2]
    · rw [up_pl z, h4 j (by omega), getD_app1 (by omega)]
  · rw [up_get, if_neg q, up_lo p]
theorem WrX.keep {kk : Nat} {l : List Int32} {σ σ' : St} (h : WrX kk l σ) (k13 : σ'.1 13 5 = σ.1 13 5) (k23 : σ'.1 23 kk = σ.1 23 kk) (k15 : ∀ j, σ'.1 (15 + kk) j = σ.1 (15 + kk) j) : WrX kk l σ' := ⟨h.1, k13.trans h.2.1, k23.trans h.2.2.1, fun j hj => (k15 j).trans (h.2.2.2 j hj)⟩
theorem WrX.l {kk : Nat} {l : List Int32} {σ σ' : St} (h : WrX kk l σ) (k : FrL σ σ') : WrX kk l σ' := h.keep (k _ _ (by omega)) (k _ _ (by omega)) (fun j => k _ _ (by omega))
theorem LexX.keep {B : Nat → Int32} {t pos : Nat} {σ σ' : St} (h : LexX B t pos σ) (k : ∀ a b, a = 11 ∨ a = 12 → σ'.1 a b = σ.1 a b) : LexX B t pos σ' := ⟨h.1.keep (k _ _ (by decide)) (fun j => k _ _ (by decide)), h.2.1, (k _ _ (by decide)).trans h.2.2.1, (k _ _ (by decide)).trans h.2.2.2.1, (k _ _ (by decide)).trans h.2.2.2.2⟩
/-- what a reading method does, beside what is to be read -/
def SpX (B : Nat → Int32) (t kk : Nat) (r : PR) (l : List Int32) (σ : St) (o : Option (Int32 × St)) : Prop := match r with
  | (none, q) => ∃ σ', o = some (0, σ') ∧ LexX B t q σ' ∧ FrW kk σ σ'
  | (some l', q) => ∃ σ', o = some (1, σ') ∧ LexX B t q σ' ∧ WrX kk (l ++ l') σ' ∧ FrW kk σ σ'
def RdX (B : Nat → Int32) (t kk : Nat) (p : Nat → PR) (X : St → Option (Int32 × St)) : Prop := ∀ pos σ l, LexX B t pos σ → WrX kk l σ → l.length ≤ tokF B t pos → SpX B t kk (p pos) l σ (X σ)
theorem SpX.fr {B : Nat → Int32} {t kk : Nat} {r : PR} {l : List Int32} {σ σ1 : St} {o : Option (Int32 × St)} (h : SpX B t kk r l σ1 o) (k : FrW kk σ σ1) : SpX B t kk r l σ o := by
  rcases r with ⟨_ | l', q⟩
  · obtain ⟨σ', a1, a2, a3⟩ := h
    exact ⟨σ', a1, a2, k.trans a3⟩
  · obtain ⟨σ', a1, a2, a3, a4⟩ := h
    exact ⟨σ', a1, a2, a3, k.trans a4⟩
theorem SpX.app {B : Nat → Int32} {t kk : Nat} {r : PR} {l : List Int32} {σ : St} {o : Option (Int32 × St)} (c : Int32) (h : SpX B t kk r l σ o) (hl : ∀ l', r.1 = some l' → l.length + l'.length < 160) : SpX B t kk (pApp c r) l σ (o.bind (fun x => if x.1 = 0 then some (0, x.2) else (X8_write c x.2).bind (fun y => if y.1 = 0 then some (0, y.2) else some (1, y.2)))) := by
  rcases r with ⟨_ | l', q⟩
  · obtain ⟨σ', a1, a2, a3⟩ := h
    rw [a1, Option.bind_some, if_pos rfl]
    exact ⟨σ', rfl, a2, a3⟩
  · obtain ⟨σ', a1, a2, a3, a4⟩ := h
    obtain ⟨σ2, b1', b2, b3⟩ := writeX a3 (by rw [List.length_append]; exact hl l' rfl) c
    rw [a1, Option.bind_some, if_neg ne10, b1', Option.bind_some, if_neg ne10]
    have hk := a3.1
    refine ⟨σ2, rfl, a2.keep (fun a b p => b3 a b (by omega) (by omega)), ?_, a4.trans (fun a b _ q r => b3 a b q r)⟩
    rw [List.append_assoc] at b2
    exact b2
theorem one_X {B : Nat → Int32} {t kk k o : Nat} (ho : o + k = 5) {rp : Nat → Nat → PR} {rec : Nat → Int32 → St → Option (Int32 × St)} (hg : k ≠ 0 → ∀ ty, GoodP B t (rp ty)) (hr : k ≠ 0 → ∀ ty, RdX B t kk (rp ty) (fun σ => rec ty (nI (o + 1)) σ)) : RdX B t kk (fun p => pOne B t rp k p) (fun σ => X2_readOne rec (nI o) σ) := by
  intro pos σ l hL hW hl
  show SpX B t kk (pOne B t rp k pos) l σ (X2_readOne rec (nI o) σ)
  have ht := hL.1.1
  have hp := hL.2.1
  obtain ⟨σ1, a1, a2, a3⟩ := hL.step
  have W1 := hW.l a3
  unfold pOne X2_readOne
  rw [hL.2.2.1]
  by_cases c1 : tokC B t pos ≤ -7
  · rw [if_pos c1, if_pos c1]
    unfold X2_readOne_b42
    have lt5 : k ≠ 0 → nI o < 5 := fun h => nI_lt (show o < 5 by omega) (by decide)
    have ge5 : k = 0 → ¬ nI o < 5 := fun h => by rw [show (5 : Int32) = nI 5 from rfl, nI_ltI (by omega) (by decide)]; omega
    by_cases c2 : tokC B t pos = -13
    · rw [if_pos c2, if_pos c2]
      by_cases k0 : k = 0
      · rw [if_pos k0, if_neg (ge5 k0)]
        exact ⟨σ, rfl, hL, FrW.refl kk σ⟩
      · rw [if_neg k0, if_pos (lt5 k0), a1, Option.bind_some, if_pos c2, nI_1]
        have hn := tokF_next (B := B) hp (by rw [c2]; decide)
        have g := hg k0 0 _ a2.2.1
        have hF := (tokF_le (B := B) g.1).2
        exact SpX.fr (SpX.app (-15) (hr k0 0 (tokN B t pos) σ1 l a2 W1 (by omega)) (fun l' hl' => by
          have := (g.2 l' hl').1
          omega)) a3.w
    · rw [if_neg c2, if_neg c2]
      by_cases c3 : tokC B t pos = -19
      · rw [if_pos c3, if_pos c3]
        by_cases k0 : k = 0
        · rw [if_pos k0, if_neg (ge5 k0)]
          exact ⟨σ, rfl, hL, FrW.refl kk σ⟩
        · rw [if_neg k0, if_pos (lt5 k0), a1, Option.bind_some, if_neg c2, nI_1]
          have hn := tokF_next (B := B) hp (by rw [c3]; decide)
          have h := hr k0 1 (tokN B t pos) σ1 l a2 W1 (by omega)
          revert h
          rcases rp 1 (tokN B t pos) with ⟨_ | l', q⟩
          · intro h
            obtain ⟨σ2, b1', b2, b3⟩ := h
            dsimp only at b1'
            rw [b1', Option.bind_some, if_pos rfl]
            exact ⟨σ2, rfl, b2, a3.w.trans b3⟩
          · intro h
            obtain ⟨σ2, b1', b2, b3, b4⟩ := h
            dsimp only at b1'
            rw [b1', Option.bind_some, if_neg ne10]
            show SpX B t kk (if tokC B t q = -20 then (some l', tokN B t q) else (none, q)) l σ _
            unfold X2_readToken
            dsimp only
            rw [b2.2.2.1]
            by_cases c4 : tokC B t q = -20
            · obtain ⟨σ3, d1, d2, d3⟩ := b2.step
              rw [if_pos c4, if_pos c4, d1, Option.bind_some, Option.bind_some, if_neg ne10]
              exact ⟨σ3, rfl, d2, b3.l d3, (a3.w.trans b4).trans d3.w⟩
            · rw [if_neg c4, if_neg c4, Option.bind_some, if_pos rfl]
              exact ⟨σ2, rfl, b2, a3.w.trans b4⟩
      · rw [if_neg c3, if_neg c3]
        exact ⟨σ, rfl, hL, FrW.refl kk σ⟩
  · rw [if_neg c1, if_neg c1, a1, Option.bind_some]
    have hlt := tokC_lt (B := B) (t := t) (pos := pos) (fun q => c1 (by rw [q]; decide))
    obtain ⟨σ2, b1', b2, b3⟩ := writeX W1 (by omega) (tokC B t pos)
    rw [b1', Option.bind_some, if_pos (Or.inr rfl)]
    have hk := W1.1
    exact ⟨σ2, rfl, a2.keep (fun a b p => b3 a b (by omega) (by omega)), b2, a3.w.trans (fun a b _ q r => b3 a b q r)⟩
theorem termX_loop {B : Nat → Int32} {t kk : Nat} {l1 : Int32} {rec : Nat → Int32 → St → Option (Int32 × St)} {sub : Nat → PR} (hg : GoodP B t sub) (hs : RdX B t kk sub (fun σ => X2_readOne rec l1 σ)) {l : List Int32} : ∀ (d i F pos : Nat) (acc : List Int32) (σ : St), i + d = 160 → d < F → LexX B t pos σ → WrX kk (l ++ acc) σ → (l ++ acc).length ≤ tokF B t pos → SpX B t kk (pLoop B t okT sub d acc pos) l σ (X2_readTerm_b12 rec F l1 (nI i) σ) := by
  intro d
  induction d with
  | zero =>
    intro i F pos acc σ hi hF hL hW hl
    obtain ⟨F', rfl⟩ : ∃ F', F = F' + 1 := ⟨F - 1, by omega⟩
    rw [X2_readTerm_b12, if_pos (show 160 ≤ nI i by rw [show (160 : Int32) = nI 160 from rfl, nI_leI (by decide) (by omega)]; omega)]
    exact ⟨σ, rfl, hL, hW, FrW.refl kk σ⟩
  | succ d ih =>
    intro i F pos acc σ hi hF hL hW hl
    obtain ⟨F', rfl⟩ : ∃ F', F = F' + 1 := ⟨F - 1, by omega⟩
    have ht := hL.1.1
    have hp := hL.2.1
    rw [X2_readTerm_b12, if_neg (show ¬ 160 ≤ nI i by rw [show (160 : Int32) = nI 160 from rfl, nI_leI (by decide) (by omega)]; omega), hL.2.2.1]
    unfold pLoop
    by_cases c : tokC B t pos = -14
    · rw [if_pos c, if_pos (show okT (tokC B t pos) = true from decide_eq_true c), c]
      obtain ⟨σ1, a1, a2, a3⟩ := hL.step
      have W1 := hW.l a3
      have hn := tokF_next (B := B) hp (by rw [c]; decide)
      have g := hg _ a2.2.1
      have h := hs (tokN B t pos) σ1 (l ++ acc) a2 W1 (by omega)
      have hF2 := (tokF_le (B := B) g.1).2
      rw [a1, Option.bind_some]
      revert h g hF2
      rcases sub (tokN B t pos) with ⟨_ | l2, q⟩
      · intro g h hF2
        obtain ⟨σ2, b1', b2, b3⟩ := h
        dsimp only at b1'
        rw [b1', Option.bind_some, if_pos rfl]
        exact ⟨σ2, rfl, b2, a3.w.trans b3⟩
      · intro g h hF2
        obtain ⟨σ2, b1', b2, b3, b4⟩ := h
        dsimp only at b1' hF2
        have g1 := (g.2 l2 rfl).1
        dsimp only at g1
        obtain ⟨σ3, d1, d2, d3⟩ := writeX b3 (by rw [List.length_append]; omega) (-14)
        have hk := W1.1
        rw [b1', Option.bind_some, if_neg ne10, d1, Option.bind_some, if_neg ne10, nI_1]
        have e1 : (l ++ acc) ++ l2 ++ [(-14 : Int32)] = l ++ (acc ++ (l2 ++ [(-14 : Int32)])) := by simp only [List.append_assoc]
        rw [e1] at d2
        refine SpX.fr (ih (i + 1) F' q (acc ++ (l2 ++ [-14])) σ3 (by omega) (by omega) (b2.keep (fun a b p => d3 a b (by omega) (by omega))) d2 ?_) ((a3.w.trans b4).trans (fun a b _ q r => d3 a b q r))
        rw [← e1, List.length_append, List.length_append, List.length_singleton]
        omega
    · rw [if_neg c, if_neg (show ¬ okT (tokC B t pos) = true from fun q => c (of_decide_eq_true q))]
      exact ⟨σ, rfl, hL, hW, FrW.refl kk σ⟩
theorem termX_chain {B : Nat → Int32} {t kk : Nat} {l1 : Int32} {rec : Nat → Int32 → St → Option (Int32 × St)} {sub : Nat → PR} (hg : GoodP B t sub) (hs : RdX B t kk sub (fun σ => X2_readOne rec l1 σ)) : RdX B t kk (fun p => pChain B t okT sub p) (fun σ => X2_readTerm rec l1 σ) := by
  intro pos σ l hL hW hl
  show SpX B t kk (pChain B t okT sub pos) l σ (X2_readTerm rec l1 σ)
  have h := hs pos σ l hL hW hl
  have g := hg pos hL.2.1
  unfold pChain X2_readTerm
  revert h g
  rcases sub pos with ⟨_ | l2, q⟩
  · intro h g
    obtain ⟨σ2, b1', b2, b3⟩ := h
    dsimp only at b1'
    rw [b1', Option.bind_some, if_pos rfl]
    exact ⟨σ2, rfl, b2, b3⟩
  · intro h g
    obtain ⟨σ2, b1', b2, b3, b4⟩ := h
    dsimp only at b1'
    have g1 := (g.2 l2 rfl).1
    dsimp only at g1
    rw [b1', Option.bind_some, if_neg ne10]
    exact SpX.fr (termX_loop hg hs 160 0 FU q l2 σ2 (by omega) (by rw [FU_eq]; omega) b2 b3 (by rw [List.length_append]; omega)) b4
theorem sumX_loop {B : Nat → Int32} {t kk : Nat} {l1 : Int32} {rec : Nat → Int32 → St → Option (Int32 × St)} {sub : Nat → PR} (hg : GoodP B t sub) (hs : RdX B t kk sub (fun σ => X2_readTerm rec l1 σ)) {l : List Int32} : ∀ (d i F pos : Nat) (acc : List Int32) (σ : St), i + d = 160 → d < F → LexX B t pos σ → WrX kk (l ++ acc) σ → (l ++ acc).length ≤ tokF B t pos → SpX B t kk (pLoop B t okS sub d acc pos) l σ (X2_readSum_b12 rec F l1 (nI i) σ) := by
  intro d
  induction d with
  | zero =>
    intro i F pos acc σ hi hF hL hW hl
    obtain ⟨F', rfl⟩ : ∃ F', F = F' + 1 := ⟨F - 1, by omega⟩
    rw [X2_readSum_b12, if_pos (show 160 ≤ nI i by rw [show (160 : Int32) = nI 160 from rfl, nI_leI (by decide) (by omega)]; omega)]
    exact ⟨σ, rfl, hL, hW, FrW.refl kk σ⟩
  | succ d ih =>
    intro i F pos acc σ hi hF hL hW hl
    obtain ⟨F', rfl⟩ : ∃ F', F = F' + 1 := ⟨F - 1, by omega⟩
    have ht := hL.1.1
    have hp := hL.2.1
    rw [X2_readSum_b12, if_neg (show ¬ 160 ≤ nI i by rw [show (160 : Int32) = nI 160 from rfl, nI_leI (by decide) (by omega)]; omega), hL.2.2.1]
    unfold pLoop
    by_cases c : tokC B t pos = -12
    · rw [if_pos c, if_pos (show okS (tokC B t pos) = true from decide_eq_true (Or.inl c))]
      unfold X2_readSum_b43
      rw [hL.2.2.1, c]
      obtain ⟨σ1, a1, a2, a3⟩ := hL.step
      have W1 := hW.l a3
      have hn := tokF_next (B := B) hp (by rw [c]; decide)
      have g := hg _ a2.2.1
      have h := hs (tokN B t pos) σ1 (l ++ acc) a2 W1 (by omega)
      have hF2 := (tokF_le (B := B) g.1).2
      rw [a1, Option.bind_some]
      revert h g hF2
      rcases sub (tokN B t pos) with ⟨_ | l2, q⟩
      · intro g h hF2
        obtain ⟨σ2, b1', b2, b3⟩ := h
        dsimp only at b1'
        rw [b1', Option.bind_some, if_pos rfl]
        exact ⟨σ2, rfl, b2, a3.w.trans b3⟩
      · intro g h hF2
        obtain ⟨σ2, b1', b2, b3, b4⟩ := h
        dsimp only at b1' hF2
        have g1 := (g.2 l2 rfl).1
        dsimp only at g1
        obtain ⟨σ3, d1, d2, d3⟩ := writeX b3 (by rw [List.length_append]; omega) (-12)
        have hk := W1.1
        rw [b1', Option.bind_some, if_neg ne10, d1, Option.bind_some, if_neg ne10, nI_1]
        have e1 : (l ++ acc) ++ l2 ++ [(-12 : Int32)] = l ++ (acc ++ (l2 ++ [(-12 : Int32)])) := by simp only [List.append_assoc]
        rw [e1] at d2
        refine SpX.fr (ih (i + 1) F' q (acc ++ (l2 ++ [-12])) σ3 (by omega) (by omega) (b2.keep (fun a b p => d3 a b (by omega) (by omega))) d2 ?_) ((a3.w.trans b4).trans (fun a b _ q r => d3 a b q r))
        rw [← e1, List.length_append, List.length_append, List.length_singleton]
        omega
    · rw [if_neg c]
      by_cases c : tokC B t pos = -13
      · rw [if_pos c, if_pos (show okS (tokC B t pos) = true from decide_eq_true (Or.inr c))]
        unfold X2_readSum_b43
        rw [hL.2.2.1, c]
        obtain ⟨σ1, a1, a2, a3⟩ := hL.step
        have W1 := hW.l a3
        have hn := tokF_next (B := B) hp (by rw [c]; decide)
        have g := hg _ a2.2.1
        have h := hs (tokN B t pos) σ1 (l ++ acc) a2 W1 (by omega)
        have hF2 := (tokF_le (B := B) g.1).2
        rw [a1, Option.bind_some]
        revert h g hF2
        rcases sub (tokN B t pos) with ⟨_ | l2, q⟩
        · intro g h hF2
          obtain ⟨σ2, b1', b2, b3⟩ := h
          dsimp only at b1'
          rw [b1', Option.bind_some, if_pos rfl]
          exact ⟨σ2, rfl, b2, a3.w.trans b3⟩
        · intro g h hF2
          obtain ⟨σ2, b1', b2, b3, b4⟩ := h
          dsimp only at b1' hF2
          have g1 := (g.2 l2 rfl).1
          dsimp only at g1
          obtain ⟨σ3, d1, d2, d3⟩ := writeX b3 (by rw [List.length_append]; omega) (-13)
          have hk := W1.1
          rw [b1', Option.bind_some, if_neg ne10, d1, Option.bind_some, if_neg ne10, nI_1]
          have e1 : (l ++ acc) ++ l2 ++ [(-13 : Int32)] = l ++ (acc ++ (l2 ++ [(-13 : Int32)])) := by simp only [List.append_assoc]
          rw [e1] at d2
          refine SpX.fr (ih (i + 1) F' q (acc ++ (l2 ++ [-13])) σ3 (by omega) (by omega) (b2.keep (fun a b p => d3 a b (by omega) (by omega))) d2 ?_) ((a3.w.trans b4).trans (fun a b _ q r => d3 a b q r))
          rw [← e1, List.length_append, List.length_append, List.length_singleton]
          omega
      · rename_i c0
        rw [if_neg c, if_neg (show ¬ okS (tokC B t pos) = true from fun q => (of_decide_eq_true q).elim c0 c)]
        exact ⟨σ, rfl, hL, hW, FrW.refl kk σ⟩
theorem sumX_chain {B : Nat → Int32} {t kk : Nat} {l1 : Int32} {rec : Nat → Int32 → St → Option (Int32 × St)} {sub : Nat → PR} (hg : GoodP B t sub) (hs : RdX B t kk sub (fun σ => X2_readTerm rec l1 σ)) : RdX B t kk (fun p => pChain B t okS sub p) (fun σ => X2_readSum rec l1 σ) := by
  intro pos σ l hL hW hl
  show SpX B t kk (pChain B t okS sub pos) l σ (X2_readSum rec l1 σ)
  have h := hs pos σ l hL hW hl
  have g := hg pos hL.2.1
  unfold pChain X2_readSum
  revert h g
  rcases sub pos with ⟨_ | l2, q⟩
  · intro h g
    obtain ⟨σ2, b1', b2, b3⟩ := h
    dsimp only at b1'
    rw [b1', Option.bind_some, if_pos rfl]
    exact ⟨σ2, rfl, b2, b3⟩
  · intro h g
    obtain ⟨σ2, b1', b2, b3, b4⟩ := h
    dsimp only at b1'
    have g1 := (g.2 l2 rfl).1
    dsimp only at g1
    rw [b1', Option.bind_some, if_neg ne10]
    exact SpX.fr (sumX_loop hg hs 160 0 FU q l2 σ2 (by omega) (by rw [FU_eq]; omega) b2 b3 (by rw [List.length_append]; omega)) b4
theorem andX_loop {B : Nat → Int32} {t kk : Nat} {l1 : Int32} {rec : Nat → Int32 → St → Option (Int32 × St)} {sub : Nat → PR} (hg : GoodP B t sub) (hs : RdX B t kk sub (fun σ => X2_readNot rec l1 σ)) {l : List Int32} : ∀ (d i F pos : Nat) (acc : List Int32) (σ : St), i + d = 160 → d < F → LexX B t pos σ → WrX kk (l ++ acc) σ → (l ++ acc).length ≤ tokF B t pos → SpX B t kk (pLoop B t okA sub d acc pos) l σ (X2_readAnd_b12 rec F l1 (nI i) σ) := by
  intro d
  induction d with
  | zero =>
    intro i F pos acc σ hi hF hL hW hl
    obtain ⟨F', rfl⟩ : ∃ F', F = F' + 1 := ⟨F - 1, by omega⟩
    rw [X2_readAnd_b12, if_pos (show 160 ≤ nI i by rw [show (160 : Int32) = nI 160 from rfl, nI_leI (by decide) (by omega)]; omega)]
    exact ⟨σ, rfl, hL, hW, FrW.refl kk σ⟩
  | succ d ih =>
    intro i F pos acc σ hi hF hL hW hl
    obtain ⟨F', rfl⟩ : ∃ F', F = F' + 1 := ⟨F - 1, by omega⟩
    have ht := hL.1.1
    have hp := hL.2.1
    rw [X2_readAnd_b12, if_neg (show ¬ 160 ≤ nI i by rw [show (160 : Int32) = nI 160 from rfl, nI_leI (by decide) (by omega)]; omega), hL.2.2.1]
    unfold pLoop
    by_cases c : tokC B t pos = -8
    · rw [if_pos c, if_pos (show okA (tokC B t pos) = true from decide_eq_true c), c]
      obtain ⟨σ1, a1, a2, a3⟩ := hL.step
      have W1 := hW.l a3
      have hn := tokF_next (B := B) hp (by rw [c]; decide)
      have g := hg _ a2.2.1
      have h := hs (tokN B t pos) σ1 (l ++ acc) a2 W1 (by omega)
      have hF2 := (tokF_le (B := B) g.1).2
      rw [a1, Option.bind_some]
      revert h g hF2
      rcases sub (tokN B t pos) with ⟨_ | l2, q⟩
      · intro g h hF2
        obtain ⟨σ2, b1', b2, b3⟩ := h
        dsimp only at b1'
        rw [b1', Option.bind_some, if_pos rfl]
        exact ⟨σ2, rfl, b2, a3.w.trans b3⟩
      · intro g h hF2
        obtain ⟨σ2, b1', b2, b3, b4⟩ := h
        dsimp only at b1' hF2
        have g1 := (g.2 l2 rfl).1
        dsimp only at g1
        obtain ⟨σ3, d1, d2, d3⟩ := writeX b3 (by rw [List.length_append]; omega) (-8)
        have hk := W1.1
        rw [b1', Option.bind_some, if_neg ne10, d1, Option.bind_some, if_neg ne10, nI_1]
        have e1 : (l ++ acc) ++ l2 ++ [(-8 : Int32)] = l ++ (acc ++ (l2 ++ [(-8 : Int32)])) := by simp only [List.append_assoc]
        rw [e1] at d2
        refine SpX.fr (ih (i + 1) F' q (acc ++ (l2 ++ [-8])) σ3 (by omega) (by omega) (b2.keep (fun a b p => d3 a b (by omega) (by omega))) d2 ?_) ((a3.w.trans b4).trans (fun a b _ q r => d3 a b q r))
        rw [← e1, List.length_append, List.length_append, List.length_singleton]
        omega
    · rw [if_neg c, if_neg (show ¬ okA (tokC B t pos) = true from fun q => c (of_decide_eq_true q))]
      exact ⟨σ, rfl, hL, hW, FrW.refl kk σ⟩
theorem andX_chain {B : Nat → Int32} {t kk : Nat} {l1 : Int32} {rec : Nat → Int32 → St → Option (Int32 × St)} {sub : Nat → PR} (hg : GoodP B t sub) (hs : RdX B t kk sub (fun σ => X2_readNot rec l1 σ)) : RdX B t kk (fun p => pChain B t okA sub p) (fun σ => X2_readAnd rec l1 σ) := by
  intro pos σ l hL hW hl
  show SpX B t kk (pChain B t okA sub pos) l σ (X2_readAnd rec l1 σ)
  have h := hs pos σ l hL hW hl
  have g := hg pos hL.2.1
  unfold pChain X2_readAnd
  revert h g
  rcases sub pos with ⟨_ | l2, q⟩
  · intro h g
    obtain ⟨σ2, b1', b2, b3⟩ := h
    dsimp only at b1'
    rw [b1', Option.bind_some, if_pos rfl]
    exact ⟨σ2, rfl, b2, b3⟩
  · intro h g
    obtain ⟨σ2, b1', b2, b3, b4⟩ := h
    dsimp only at b1'
    have g1 := (g.2 l2 rfl).1
    dsimp only at g1
    rw [b1', Option.bind_some, if_neg ne10]
    exact SpX.fr (andX_loop hg hs 160 0 FU q l2 σ2 (by omega) (by rw [FU_eq]; omega) b2 b3 (by rw [List.length_append]; omega)) b4
theorem orX_loop {B : Nat → Int32} {t kk : Nat} {l1 : Int32} {rec : Nat → Int32 → St → Option (Int32 × St)} {sub : Nat → PR} (hg : GoodP B t sub) (hs : RdX B t kk sub (fun σ => X2_readAnd rec l1 σ)) {l : List Int32} : ∀ (d i F pos : Nat) (acc : List Int32) (σ : St), i + d = 160 → d < F → LexX B t pos σ → WrX kk (l ++ acc) σ → (l ++ acc).length ≤ tokF B t pos → SpX B t kk (pLoop B t okO sub d acc pos) l σ (X2_readOr_b12 rec F l1 (nI i) σ) := by
  intro d
  induction d with
  | zero =>
    intro i F pos acc σ hi hF hL hW hl
    obtain ⟨F', rfl⟩ : ∃ F', F = F' + 1 := ⟨F - 1, by omega⟩
    rw [X2_readOr_b12, if_pos (show 160 ≤ nI i by rw [show (160 : Int32) = nI 160 from rfl, nI_leI (by decide) (by omega)]; omega)]
    exact ⟨σ, rfl, hL, hW, FrW.refl kk σ⟩
  | succ d ih =>
    intro i F pos acc σ hi hF hL hW hl
    obtain ⟨F', rfl⟩ : ∃ F', F = F' + 1 := ⟨F - 1, by omega⟩
    have ht := hL.1.1
    have hp := hL.2.1
    rw [X2_readOr_b12, if_neg (show ¬ 160 ≤ nI i by rw [show (160 : Int32) = nI 160 from rfl, nI_leI (by decide) (by omega)]; omega), hL.2.2.1]
    unfold pLoop
    by_cases c : tokC B t pos = -7
    · rw [if_pos c, if_pos (show okO (tokC B t pos) = true from decide_eq_true c), c]
      obtain ⟨σ1, a1, a2, a3⟩ := hL.step
      have W1 := hW.l a3
      have hn := tokF_next (B := B) hp (by rw [c]; decide)
      have g := hg _ a2.2.1
      have h := hs (tokN B t pos) σ1 (l ++ acc) a2 W1 (by omega)
      have hF2 := (tokF_le (B := B) g.1).2
      rw [a1, Option.bind_some]
      revert h g hF2
      rcases sub (tokN B t pos) with ⟨_ | l2, q⟩
      · intro g h hF2
        obtain ⟨σ2, b1', b2, b3⟩ := h
        dsimp only at b1'
        rw [b1', Option.bind_some, if_pos rfl]
        exact ⟨σ2, rfl, b2, a3.w.trans b3⟩
      · intro g h hF2
        obtain ⟨σ2, b1', b2, b3, b4⟩ := h
        dsimp only at b1' hF2
        have g1 := (g.2 l2 rfl).1
        dsimp only at g1
        obtain ⟨σ3, d1, d2, d3⟩ := writeX b3 (by rw [List.length_append]; omega) (-7)
        have hk := W1.1
        rw [b1', Option.bind_some, if_neg ne10, d1, Option.bind_some, if_neg ne10, nI_1]
        have e1 : (l ++ acc) ++ l2 ++ [(-7 : Int32)] = l ++ (acc ++ (l2 ++ [(-7 : Int32)])) := by simp only [List.append_assoc]
        rw [e1] at d2
        refine SpX.fr (ih (i + 1) F' q (acc ++ (l2 ++ [-7])) σ3 (by omega) (by omega) (b2.keep (fun a b p => d3 a b (by omega) (by omega))) d2 ?_) ((a3.w.trans b4).trans (fun a b _ q r => d3 a b q r))
        rw [← e1, List.length_append, List.length_append, List.length_singleton]
        omega
    · rw [if_neg c, if_neg (show ¬ okO (tokC B t pos) = true from fun q => c (of_decide_eq_true q))]
      exact ⟨σ, rfl, hL, hW, FrW.refl kk σ⟩
theorem orX_chain {B : Nat → Int32} {t kk : Nat} {l1 : Int32} {rec : Nat → Int32 → St → Option (Int32 × St)} {sub : Nat → PR} (hg : GoodP B t sub) (hs : RdX B t kk sub (fun σ => X2_readAnd rec l1 σ)) : RdX B t kk (fun p => pChain B t okO sub p) (fun σ => X2_readOr rec l1 σ) := by
  intro pos σ l hL hW hl
  show SpX B t kk (pChain B t okO sub pos) l σ (X2_readOr rec l1 σ)
  have h := hs pos σ l hL hW hl
  have g := hg pos hL.2.1
  unfold pChain X2_readOr
  revert h g
  rcases sub pos with ⟨_ | l2, q⟩
  · intro h g
    obtain ⟨σ2, b1', b2, b3⟩ := h
    dsimp only at b1'
    rw [b1', Option.bind_some, if_pos rfl]
    exact ⟨σ2, rfl, b2, b3⟩
  · intro h g
    obtain ⟨σ2, b1', b2, b3, b4⟩ := h
    dsimp only at b1'
    have g1 := (g.2 l2 rfl).1
    dsimp only at g1
    rw [b1', Option.bind_some, if_neg ne10]
    exact SpX.fr (orX_loop hg hs 160 0 FU q l2 σ2 (by omega) (by rw [FU_eq]; omega) b2 b3 (by rw [List.length_append]; omega)) b4
theorem not_X {B : Nat → Int32} {t kk k o : Nat} (ho : o + k = 5) {rp : Nat → Nat → PR} {rec : Nat → Int32 → St → Option (Int32 × St)} (hg : k ≠ 0 → ∀ ty, GoodP B t (rp ty)) (hr : k ≠ 0 → ∀ ty, RdX B t kk (rp ty) (fun σ => rec ty (nI (o + 1)) σ)) : RdX B t kk (fun p => pNot B t rp k p) (fun σ => X2_readNot rec (nI o) σ) := by
  have hsum : RdX B t kk (fun p => pSum B t rp k p) (fun σ => X2_readSum rec (nI o) σ) := sumX_chain (good_chain opT (good_one hg)) (termX_chain (good_one hg) (one_X ho hg hr))
  have gsum := good_sum hg
  intro pos σ l hL hW hl
  show SpX B t kk (pNot B t rp k pos) l σ (X2_readNot rec (nI o) σ)
  have ht := hL.1.1
  have hp := hL.2.1
  unfold pNot X2_readNot
  rw [hL.2.2.1]
  by_cases c1 : tokC B t pos = -9
  · rw [if_pos c1, if_pos c1]
    by_cases k0 : k = 0
    · rw [if_pos k0, if_neg (show ¬ nI o < 5 by rw [show (5 : Int32) = nI 5 from rfl, nI_ltI (by omega) (by decide)]; omega)]
      exact ⟨σ, rfl, hL, FrW.refl kk σ⟩
    · obtain ⟨σ1, a1, a2, a3⟩ := hL.step
      have W1 := hW.l a3
      rw [if_neg k0, if_pos (show nI o < 5 from nI_lt (show o < 5 by omega) (by decide)), a1, Option.bind_some, nI_1]
      have hn := tokF_next (B := B) hp (by rw [c1]; decide)
      have g := hg k0 2 _ a2.2.1
      have hF := (tokF_le (B := B) g.1).2
      exact SpX.fr (SpX.app (-9) (hr k0 2 (tokN B t pos) σ1 l a2 W1 (by omega)) (fun l' hl' => by
        have := (g.2 l' hl').1
        omega)) a3.w
  · rw [if_neg c1, if_neg c1]
    have h := hsum pos σ l hL hW hl
    have g := gsum pos hp
    dsimp only at h g
    revert h g
    rcases pSum B t rp k pos with ⟨_ | l2, q⟩
    · intro h g
      obtain ⟨σ2, b1', b2, b3⟩ := h
      rw [b1', Option.bind_some, if_pos rfl]
      exact ⟨σ2, rfl, b2, b3⟩
    · intro h g
      obtain ⟨σ2, b1', b2, b3, b4⟩ := h
      have g1 := (g.2 l2 rfl).1
      dsimp only at g1
      rw [b1', Option.bind_some, if_neg ne10]
      show SpX B t kk (if tokC B t q = -10 ∨ tokC B t q = -11 then pBind (pSum B t rp k (tokN B t q)) (fun l3 q2 => (some (l2 ++ (l3 ++ [tokC B t q])), q2)) else (some l2, q)) l σ _
      dsimp only
      rw [b2.2.2.1]
      unfold X2_readNot_b86
      have go : ¬ tokC B t q = -22 → SpX B t kk (pBind (pSum B t rp k (tokN B t q)) (fun l3 q2 => (some (l2 ++ (l3 ++ [tokC B t q])), q2))) l σ ((X7_step σ2).bind (fun x90 => (X2_readSum rec (nI o) x90).bind (fun x95 => if x95.1 = 0 then (some (0, x95.2)) else ((X8_write (tokC B t q) x95.2).bind (fun x106 => if x106.1 = 0 then (some (0, x106.2)) else (some (1, x106.2))))))) := fun hne => by
        obtain ⟨σ3, d1, d2, d3⟩ := b2.step
        have W3 := b3.l d3
        have hn := tokF_next (B := B) b2.2.1 hne
        have g' := gsum (tokN B t q) d2.2.1
        have hF := (tokF_le (B := B) g'.1).2
        dsimp only at g' hF
        have h' := hsum (tokN B t q) σ3 (l ++ l2) d2 W3 (by rw [List.length_append]; omega)
        dsimp only at h'
        rw [d1, Option.bind_some]
        have h2 := SpX.app (tokC B t q) h' (fun l' hl' => by
          have := (g'.2 l' hl').1
          rw [List.length_append]
          omega)
        revert h2
        rcases pSum B t rp k (tokN B t q) with ⟨_ | l3, q2⟩
        · intro h2
          exact SpX.fr (r := (none, q2)) h2 (b4.trans d3.w)
        · intro h2
          obtain ⟨σ4, f1, f2, f3, f4⟩ := h2
          refine ⟨σ4, f1, f2, ?_, (b4.trans d3.w).trans f4⟩
          rw [List.append_assoc] at f3
          exact f3
      by_cases c2 : tokC B t q = -10
      · rw [if_pos c2, if_pos (Or.inl c2)]
        exact go (by rw [c2]; decide)
      · rw [if_neg c2]
        by_cases c3 : tokC B t q = -11
        · rw [if_pos c3, if_pos (Or.inr c3)]
          exact go (by rw [c3]; decide)
        · rw [if_neg c3, if_neg (fun z => z.elim c2 c3)]
          exact ⟨σ2, rfl, b2, b3, b4⟩
theorem or_X {B : Nat → Int32} {t kk k o : Nat} (ho : o + k = 5) {rp : Nat → Nat → PR} {rec : Nat → Int32 → St → Option (Int32 × St)} (hg : k ≠ 0 → ∀ ty, GoodP B t (rp ty)) (hr : k ≠ 0 → ∀ ty, RdX B t kk (rp ty) (fun σ => rec ty (nI (o + 1)) σ)) : RdX B t kk (fun p => pOr B t rp k p) (fun σ => X2_readOr rec (nI o) σ) := orX_chain (good_chain opA (good_not hg)) (andX_chain (good_not hg) (not_X ho hg hr))
theorem rec_X {B : Nat → Int32} {t kk : Nat} : ∀ (k o m : Nat), o + k = 5 → k ≤ m → ∀ ty, k ≠ 0 → RdX B t kk (fun p => recP B t k ty p) (fun σ => rd_K m ty (nI (o + 1)) σ) := by
  intro k
  induction k with
  | zero => intro o m _ _ ty h; exact absurd rfl h
  | succ k ih =>
    intro o m ho hm ty _ pos σ l hL hW hl
    obtain ⟨m', rfl⟩ : ∃ m', m = m' + 1 := ⟨m - 1, by omega⟩
    have hg : k ≠ 0 → ∀ ty, GoodP B t ((fun a b => recP B t k a b) ty) := fun _ ty => good_rec k ty
    have hr : k ≠ 0 → ∀ ty, RdX B t kk ((fun a b => recP B t k a b) ty) (fun σ => rd_K m' ty (nI (o + 1 + 1)) σ) := fun h ty => ih (o + 1) m' (by omega) (by omega) ty h
    show SpX B t kk (if ty = 0 then pOne B t (fun a b => recP B t k a b) k pos else if ty = 1 then pOr B t (fun a b => recP B t k a b) k pos else pNot B t (fun a b => recP B t k a b) k pos) l σ (if ty = 0 then X2_readOne (rd_K m') (nI (o + 1)) σ else if ty = 1 then X2_readOr (rd_K m') (nI (o + 1)) σ else X2_readNot (rd_K m') (nI (o + 1)) σ)
    by_cases c : ty = 0
    · rw [if_pos c, if_pos c]
      exact one_X (show (o + 1) + k = 5 by omega) hg hr pos σ l hL hW hl
    · rw [if_neg c, if_neg c]
      by_cases c2 : ty = 1
      · rw [if_pos c2, if_pos c2]
        exact or_X (show (o + 1) + k = 5 by omega) hg hr pos σ l hL hW hl
      · rw [if_neg c2, if_neg c2]
        exact not_X (show (o + 1) + k = 5 by omega) hg hr pos σ l hL hW hl
theorem top_X {B : Nat → Int32} {t kk : Nat} : RdX B t kk (fun p => pOr B t (fun a b => recP B t 5 a b) 5 p) (fun σ => X2_readOr (rd_K FR) 0 σ) := or_X (o := 0) (k := 5) rfl (fun _ ty => good_rec 5 ty) (fun h ty => rec_X 5 0 8 rfl (by decide) ty h)
