/-- what is read: a code, the place that it goes on from -/
abbrev PR : Type := Option (List Int32) × Nat
def pBind (r : PR) (f : List Int32 → Nat → PR) : PR := match r with
  | (none, q) => (none, q)
  | (some l, q) => f l q
def pApp (x : Int32) (r : PR) : PR := pBind r (fun l q => (some (l ++ [x]), q))
def pPar (B : Nat → Int32) (t : Nat) (r : PR) : PR := pBind r (fun l q => if tokC B t q = -20 then (some l, tokN B t q) else (none, q))
def pOne (B : Nat → Int32) (t : Nat) (rec : Nat → Nat → PR) (k pos : Nat) : PR := if tokC B t pos ≤ -7 then (if tokC B t pos = -13 then (if k = 0 then (none, pos) else pApp (-15) (rec 0 (tokN B t pos))) else if tokC B t pos = -19 then (if k = 0 then (none, pos) else pPar B t (rec 1 (tokN B t pos))) else (none, pos)) else (some [tokC B t pos], tokN B t pos)
def pLoop (B : Nat → Int32) (t : Nat) (ok : Int32 → Bool) (sub : Nat → PR) : Nat → List Int32 → Nat → PR
  | 0, l, pos => (some l, pos)
  | F + 1, l, pos => if ok (tokC B t pos) = true then pBind (sub (tokN B t pos)) (fun l2 q => pLoop B t ok sub F (l ++ (l2 ++ [tokC B t pos])) q) else (some l, pos)
def pChain (B : Nat → Int32) (t : Nat) (ok : Int32 → Bool) (sub : Nat → PR) (pos : Nat) : PR := pBind (sub pos) (fun l q => pLoop B t ok sub 160 l q)
def okT (c : Int32) : Bool := decide (c = -14)
def okS (c : Int32) : Bool := decide (c = -12 ∨ c = -13)
def okA (c : Int32) : Bool := decide (c = -8)
def okO (c : Int32) : Bool := decide (c = -7)
def pTerm (B : Nat → Int32) (t : Nat) (rec : Nat → Nat → PR) (k pos : Nat) : PR := pChain B t okT (fun p => pOne B t rec k p) pos
def pSum (B : Nat → Int32) (t : Nat) (rec : Nat → Nat → PR) (k pos : Nat) : PR := pChain B t okS (fun p => pTerm B t rec k p) pos
def pNot (B : Nat → Int32) (t : Nat) (rec : Nat → Nat → PR) (k pos : Nat) : PR := if tokC B t pos = -9 then (if k = 0 then (none, pos) else pApp (-9) (rec 2 (tokN B t pos))) else pBind (pSum B t rec k pos) (fun l q => if tokC B t q = -10 ∨ tokC B t q = -11 then pBind (pSum B t rec k (tokN B t q)) (fun l2 q2 => (some (l ++ (l2 ++ [tokC B t q])), q2)) else (some l, q))
def pAnd (B : Nat → Int32) (t : Nat) (rec : Nat → Nat → PR) (k pos : Nat) : PR := pChain B t okA (fun p => pNot B t rec k p) pos
def pOr (B : Nat → Int32) (t : Nat) (rec : Nat → Nat → PR) (k pos : Nat) : PR := pChain B t okO (fun p => pAnd B t rec k p) pos
def recP (B : Nat → Int32) (t : Nat) : Nat → Nat → Nat → PR
  | 0, _, pos => (none, pos)
  | k + 1, ty, pos => if ty = 0 then pOne B t (fun a b => recP B t k a b) k pos else if ty = 1 then pOr B t (fun a b => recP B t k a b) k pos else pNot B t (fun a b => recP B t k a b) k pos
/-- what a code tells -/
def namedV (nm : Nm) (c : Int32) : Int32 := if c = -5 then nm 4 else if c = -4 then nm 3 else if c = -3 then nm 2 else if c = -2 then nm 1 else if c = -1 then nm 0 else nm 5
def joinV (c a b : Int32) : Int32 := if c = -13 then a - b else if c = -12 then a + b else if c = -11 then (if a = b then 1 else 0) else if c = -10 then (if b ≤ a then 0 else 1) else if c = -9 then a * b else if c = -8 then (if a = 0 then 0 else if b = 0 then 0 else 1) else if c = -7 then (if a = 0 then (if b = 0 then 0 else 1) else 1) else a * b
def notV (x : Int32) : Int32 := if x = 0 then 1 else 0
def pushV (nm : Nm) (c : Int32) : Int32 := if c < 0 then namedV nm c else c
def st1 (f : Int32 → Int32) : List Int32 → Option (List Int32)
  | [] => none
  | x :: r => some (f x :: r)
def st2 (f : Int32 → Int32 → Int32) : List Int32 → Option (List Int32)
  | b :: a :: r => some (f a b :: r)
  | _ => none
def stO (nm : Nm) (c : Int32) (s : List Int32) : Option (List Int32) := if c ≤ -7 then (if c = -9 then st1 notV s else if c = -15 then st1 (fun x => -x) s else st2 (joinV c) s) else some (pushV nm c :: s)
def runV (nm : Nm) : List Int32 → List Int32 → Option (List Int32)
  | [], s => some s
  | c :: r, s => (stO nm c s).bind (fun s' => runV nm r s')
theorem runV_app (nm : Nm) : ∀ (l l' s : List Int32), runV nm (l ++ l') s = (runV nm l s).bind (fun s' => runV nm l' s') := by
  intro l
  induction l with
  | nil => intro l' s; rfl
  | cons c r ih =>
    intro l' s
    show (stO nm c s).bind (fun s' => runV nm (r ++ l') s') = ((stO nm c s).bind (fun s' => runV nm r s')).bind (fun s' => runV nm l' s')
    cases stO nm c s with
    | none => rfl
    | some s' => exact ih l' s'
def Val (nm : Nm) (l : List Int32) (v : Int32) : Prop := ∀ s, runV nm l s = some (v :: s)
theorem Val_one {nm : Nm} {c : Int32} (h : ¬ c ≤ -7) : Val nm [c] (pushV nm c) := fun s => by
  show (stO nm c s).bind (fun s' => runV nm [] s') = _
  unfold stO
  rw [if_neg h]
  rfl
theorem Val_not {nm : Nm} {l : List Int32} {v : Int32} (h : Val nm l v) : Val nm (l ++ [-9]) (notV v) := fun s => by
  rw [runV_app, h s, Option.bind_some]
  rfl
theorem Val_neg {nm : Nm} {l : List Int32} {v : Int32} (h : Val nm l v) : Val nm (l ++ [-15]) (-v) := fun s => by
  rw [runV_app, h s, Option.bind_some]
  rfl
theorem Val_bin {nm : Nm} {l l2 : List Int32} {a b c : Int32} (h : Val nm l a) (h2 : Val nm l2 b) (c1 : c ≤ -7) (c2 : ¬ c = -9) (c3 : ¬ c = -15) : Val nm (l ++ (l2 ++ [c])) (joinV c a b) := fun s => by
  rw [runV_app, h s, Option.bind_some, runV_app, h2, Option.bind_some]
  show (stO nm c (b :: a :: s)).bind (fun s' => runV nm [] s') = _
  unfold stO
  rw [if_pos c1, if_neg c2, if_neg c3]
  rfl
/-- what is read goes on, is short, and tells -/
def GoodR (B : Nat → Int32) (t pos : Nat) (r : PR) : Prop := r.2 ≤ t ∧ ∀ l, r.1 = some l → l.length + tokF B t pos ≤ tokF B t r.2 ∧ ∀ nm, ∃ v, Val nm l v
def GoodP (B : Nat → Int32) (t : Nat) (p : Nat → PR) : Prop := ∀ pos, pos ≤ t → GoodR B t pos (p pos)
theorem GoodR.no {B : Nat → Int32} {t pos q : Nat} (h : q ≤ t) : GoodR B t pos (none, q) := ⟨h, fun l q => by cases q⟩
theorem GoodR.bind {B : Nat → Int32} {t pos : Nat} {r : PR} {f : List Int32 → Nat → PR} (h : r.2 ≤ t) (hf : ∀ l, r.1 = some l → GoodR B t pos (f l r.2)) : GoodR B t pos (pBind r f) := by
  rcases r with ⟨_ | l, q⟩
  · exact GoodR.no h
  · exact hf l rfl
theorem good_one {B : Nat → Int32} {t : Nat} {rec : Nat → Nat → PR} {k : Nat} (hrec : k ≠ 0 → ∀ ty, GoodP B t (rec ty)) : GoodP B t (fun p => pOne B t rec k p) := by
  intro pos hp
  have hN := tokN_le (B := B) hp
  show GoodR B t pos (pOne B t rec k pos)
  unfold pOne
  by_cases c1 : tokC B t pos ≤ -7
  · rw [if_pos c1]
    by_cases c2 : tokC B t pos = -13
    · rw [if_pos c2]
      by_cases k0 : k = 0
      · rw [if_pos k0]
        exact GoodR.no hp
      · rw [if_neg k0]
        have g := hrec k0 0 _ hN.2
        have hn := tokF_next (B := B) hp (by rw [c2]; decide)
        refine GoodR.bind g.1 (fun l hl => ⟨g.1, fun l' hl' => ?_⟩)
        obtain ⟨g1, g2⟩ := g.2 l hl
        rw [← Option.some.inj hl']
        refine ⟨?_, fun nm => ?_⟩
        · show (l ++ [-15]).length + tokF B t pos ≤ tokF B t (rec 0 (tokN B t pos)).2
          rw [List.length_append, List.length_singleton]
          omega
        · obtain ⟨v, hv⟩ := g2 nm
          exact ⟨_, Val_neg hv⟩
    · rw [if_neg c2]
      by_cases c3 : tokC B t pos = -19
      · rw [if_pos c3]
        by_cases k0 : k = 0
        · rw [if_pos k0]
          exact GoodR.no hp
        · rw [if_neg k0]
          have g := hrec k0 1 _ hN.2
          have hn := tokF_next (B := B) hp (by rw [c3]; decide)
          refine GoodR.bind g.1 (fun l hl => ?_)
          obtain ⟨g1, g2⟩ := g.2 l hl
          by_cases c4 : tokC B t (rec 1 (tokN B t pos)).2 = -20
          · rw [if_pos c4]
            have hN2 := tokN_le (B := B) g.1
            have hn2 := tokF_next (B := B) g.1 (by rw [c4]; decide)
            refine ⟨hN2.2, fun l' hl' => ?_⟩
            rw [← Option.some.inj hl']
            exact ⟨by show l.length + tokF B t pos ≤ tokF B t (tokN B t (rec 1 (tokN B t pos)).2); omega, g2⟩
          · rw [if_neg c4]
            exact GoodR.no g.1
      · rw [if_neg c3]
        exact GoodR.no hp
  · rw [if_neg c1]
    have hn := tokF_next (B := B) hp (fun q => c1 (by rw [q]; decide))
    refine ⟨hN.2, fun l' hl' => ?_⟩
    rw [← Option.some.inj hl']
    refine ⟨?_, fun nm => ⟨_, Val_one c1⟩⟩
    show [tokC B t pos].length + tokF B t pos ≤ tokF B t (tokN B t pos)
    rw [List.length_singleton]
    omega
def OkOp (ok : Int32 → Bool) : Prop := ∀ c, ok c = true → c ≤ -7 ∧ ¬ c = -9 ∧ ¬ c = -15 ∧ ¬ c = -22
theorem opT : OkOp okT := fun c h => by rw [of_decide_eq_true h]; decide
theorem opS : OkOp okS := fun c h => by rcases of_decide_eq_true h with q | q <;> rw [q] <;> decide
theorem opA : OkOp okA := fun c h => by rw [of_decide_eq_true h]; decide
theorem opO : OkOp okO := fun c h => by rw [of_decide_eq_true h]; decide
theorem good_loop {B : Nat → Int32} {t : Nat} {ok : Int32 → Bool} (hop : OkOp ok) {sub : Nat → PR} (hs : GoodP B t sub) {p0 : Nat} : ∀ (F : Nat) (l : List Int32) (pos : Nat), pos ≤ t → l.length + tokF B t p0 ≤ tokF B t pos → (∀ nm, ∃ v, Val nm l v) → GoodR B t p0 (pLoop B t ok sub F l pos) := by
  intro F
  induction F with
  | zero =>
    intro l pos hp hl hv
    refine ⟨hp, fun l' hl' => ?_⟩
    rw [← Option.some.inj hl']
    exact ⟨hl, hv⟩
  | succ F ih =>
    intro l pos hp hl hv
    unfold pLoop
    by_cases c : ok (tokC B t pos) = true
    · obtain ⟨o1, o2, o3, o4⟩ := hop _ c
      have hN := tokN_le (B := B) hp
      have hn := tokF_next (B := B) hp o4
      rw [if_pos c]
      have g := hs _ hN.2
      refine GoodR.bind g.1 (fun l2 hl2 => ?_)
      obtain ⟨g1, g2⟩ := g.2 l2 hl2
      refine ih _ _ g.1 ?_ (fun nm => ?_)
      · rw [List.length_append, List.length_append, List.length_singleton]
        omega
      · obtain ⟨v, hv⟩ := hv nm
        obtain ⟨w, hw⟩ := g2 nm
        exact ⟨_, Val_bin hv hw o1 o2 o3⟩
    · rw [if_neg c]
      refine ⟨hp, fun l' hl' => ?_⟩
      rw [← Option.some.inj hl']
      exact ⟨hl, hv⟩
theorem good_chain {B : Nat → Int32} {t : Nat} {ok : Int32 → Bool} (hop : OkOp ok) {sub : Nat → PR} (hs : GoodP B t sub) : GoodP B t (fun p => pChain B t ok sub p) := by
  intro pos hp
  have g := hs pos hp
  refine GoodR.bind g.1 (fun l hl => ?_)
  obtain ⟨g1, g2⟩ := g.2 l hl
  exact good_loop hop hs 160 l _ g.1 g1 g2
theorem good_sum {B : Nat → Int32} {t : Nat} {rec : Nat → Nat → PR} {k : Nat} (hrec : k ≠ 0 → ∀ ty, GoodP B t (rec ty)) : GoodP B t (fun p => pSum B t rec k p) := good_chain opS (good_chain opT (good_one hrec))
theorem good_not {B : Nat → Int32} {t : Nat} {rec : Nat → Nat → PR} {k : Nat} (hrec : k ≠ 0 → ∀ ty, GoodP B t (rec ty)) : GoodP B t (fun p => pNot B t rec k p) := by
  intro pos hp
  have hN := tokN_le (B := B) hp
  show GoodR B t pos (pNot B t rec k pos)
  unfold pNot
  by_cases c1 : tokC B t pos = -9
  · rw [if_pos c1]
    by_cases k0 : k = 0
    · rw [if_pos k0]
      exact GoodR.no hp
    · rw [if_neg k0]
      have g := hrec k0 2 _ hN.2
      have hn := tokF_next (B := B) hp (by rw [c1]; decide)
      refine GoodR.bind g.1 (fun l hl => ⟨g.1, fun l' hl' => ?_⟩)
      obtain ⟨g1, g2⟩ := g.2 l hl
      rw [← Option.some.inj hl']
      refine ⟨?_, fun nm => ?_⟩
      · show (l ++ [-9]).length + tokF B t pos ≤ tokF B t (rec 2 (tokN B t pos)).2
        rw [List.length_append, List.length_singleton]
        omega
      · obtain ⟨v, hv⟩ := g2 nm
        exact ⟨_, Val_not hv⟩
  · rw [if_neg c1]
    have g : GoodR B t pos (pSum B t rec k pos) := good_sum hrec pos hp
    refine GoodR.bind g.1 (fun l hl => ?_)
    obtain ⟨g1, g2⟩ := g.2 l hl
    by_cases c2 : tokC B t (pSum B t rec k pos).2 = -10 ∨ tokC B t (pSum B t rec k pos).2 = -11
    · rw [if_pos c2]
      have hN2 := tokN_le (B := B) g.1
      have hn2 := tokF_next (B := B) g.1 (by rcases c2 with q | q <;> rw [q] <;> decide)
      have h : GoodR B t _ (pSum B t rec k (tokN B t (pSum B t rec k pos).2)) := good_sum hrec _ hN2.2
      refine GoodR.bind h.1 (fun l2 hl2 => ⟨h.1, fun l' hl' => ?_⟩)
      obtain ⟨h1, h2⟩ := h.2 l2 hl2
      rw [← Option.some.inj hl']
      refine ⟨?_, fun nm => ?_⟩
      · show (l ++ (l2 ++ [tokC B t (pSum B t rec k pos).2])).length + tokF B t pos ≤ tokF B t (pSum B t rec k (tokN B t (pSum B t rec k pos).2)).2
        rw [List.length_append, List.length_append, List.length_singleton]
        omega
      · obtain ⟨v, hv⟩ := g2 nm
        obtain ⟨w, hw⟩ := h2 nm
        refine ⟨_, Val_bin hv hw ?_ ?_ ?_⟩ <;> rcases c2 with q | q <;> rw [q] <;> decide
    · rw [if_neg c2]
      refine ⟨g.1, fun l' hl' => ?_⟩
      rw [← Option.some.inj hl']
      exact ⟨g1, g2⟩
theorem good_or {B : Nat → Int32} {t : Nat} {rec : Nat → Nat → PR} {k : Nat} (hrec : k ≠ 0 → ∀ ty, GoodP B t (rec ty)) : GoodP B t (fun p => pOr B t rec k p) := good_chain opO (good_chain opA (good_not hrec))
theorem good_rec {B : Nat → Int32} {t : Nat} : ∀ k ty, GoodP B t (fun p => recP B t k ty p) := by
  intro k
  induction k with
  | zero => intro ty pos hp; exact GoodR.no hp
  | succ k ih =>
    intro ty pos hp
    show GoodR B t pos (if ty = 0 then pOne B t (fun a b => recP B t k a b) k pos else if ty = 1 then pOr B t (fun a b => recP B t k a b) k pos else pNot B t (fun a b => recP B t k a b) k pos)
    by_cases c : ty = 0
    · rw [if_pos c]
      exact good_one (fun _ ty => ih ty) pos hp
    · rw [if_neg c]
      by_cases c2 : ty = 1
      · rw [if_pos c2]
        exact good_or (fun _ ty => ih ty) pos hp
      · rw [if_neg c2]
        exact good_not (fun _ ty => ih ty) pos hp
/-- one part of a text, the text -/
def pPart (B : Nat → Int32) (t : Nat) (key : Int32) (pos : Nat) : PR := if tokC B t pos = key then pBind (pOr B t (fun a b => recP B t 5 a b) 5 (tokN B t pos)) (fun l q => if tokC B t q = -21 then (some l, tokN B t q) else (none, q)) else (none, pos)
theorem good_part {B : Nat → Int32} {t : Nat} {key : Int32} (hk : ¬ key = -22) : GoodP B t (fun p => pPart B t key p) := by
  intro pos hp
  have hN := tokN_le (B := B) hp
  show GoodR B t pos (pPart B t key pos)
  unfold pPart
  by_cases c1 : tokC B t pos = key
  · rw [if_pos c1]
    have hn := tokF_next (B := B) hp (by rw [c1]; exact hk)
    have g : GoodR B t _ (pOr B t (fun a b => recP B t 5 a b) 5 (tokN B t pos)) := good_or (fun _ ty => good_rec 5 ty) _ hN.2
    refine GoodR.bind g.1 (fun l hl => ?_)
    obtain ⟨g1, g2⟩ := g.2 l hl
    by_cases c4 : tokC B t (pOr B t (fun a b => recP B t 5 a b) 5 (tokN B t pos)).2 = -21
    · rw [if_pos c4]
      have hN2 := tokN_le (B := B) g.1
      have hn2 := tokF_next (B := B) g.1 (by rw [c4]; decide)
      refine ⟨hN2.2, fun l' hl' => ?_⟩
      rw [← Option.some.inj hl']
      exact ⟨by show l.length + tokF B t pos ≤ tokF B t (tokN B t (pOr B t (fun a b => recP B t 5 a b) 5 (tokN B t pos)).2); omega, g2⟩
    · rw [if_neg c4]
      exact GoodR.no g.1
  · rw [if_neg c1]
    exact GoodR.no hp
