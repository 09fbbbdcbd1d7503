def b1 (x : Int32) : Prop := x = 0 ∨ x = 1
theorem nar_b {x : Int32} (h : b1 x) : vp_nar .boolean x = x := by
  rcases h with rfl | rfl <;> decide
theorem come198 {σ : St} {m : Nat} (hm : m < 5) (h8 : σ.1 27 8 = nI m) {b s : Int32} (hb : b1 b) (hs : b1 s) (g v : Int32) : X1_comeUp_b198 g b s v (nI m) σ = some ((1 : Int32), up (up (up (up (up σ 31 m v) 32 m b) 33 m s) 27 8 (nI (m + 1))) 27 9 (σ.1 27 9 ||| (1 <<< (g &&& 31)))) := by
  unfold X1_comeUp_b198
  have hob : ¬ ob (nI m) 5 := by rw [ob_iff (by decide), tiI (by omega)]; omega
  rw [nar_b hb, nar_b hs, if_neg hob, tnI (show m < 2 ^ 31 by omega)]
  have e1 : (up σ 31 m v).1 27 8 = nI m := h8
  rw [e1, if_neg hob, tnI (show m < 2 ^ 31 by omega)]
  have e2 : (up (up σ 31 m v) 32 m b).1 27 8 = nI m := h8
  rw [e2, if_neg hob, tnI (show m < 2 ^ 31 by omega)]
  have e3 : (up (up (up σ 31 m v) 32 m b) 33 m s).1 27 8 = nI m := h8
  rw [e3, nI_1]
  rfl
def push (σ : St) (m : Nat) (g t v b s : Int32) : St := up (up (up (up (up (up (up σ 29 m g) 30 m t) 31 m v) 32 m b) 33 m s) 27 8 (nI (m + 1))) 27 9 (σ.1 27 9 ||| (1 <<< (g &&& 31)))
theorem come138 {σ : St} {m : Nat} (hm : m < 5) (h8 : σ.1 27 8 = nI m) {b s : Int32} (hb : b1 b) (hs : b1 s) (g : Int32) : X1_comeUp_b138 g b s σ = some ((1 : Int32), push σ m g (σ.1 28 0) (fin s (σ.1 28 2)) b s) := by
  unfold X1_comeUp_b138
  have hob : ¬ ob (nI m) 5 := by rw [ob_iff (by decide), tiI (by omega)]; omega
  rw [h8, if_neg hob, tnI (show m < 2 ^ 31 by omega)]
  have e1 : (up σ 29 m g).1 27 8 = nI m := h8
  have e2 : (up σ 29 m g).1 28 0 = σ.1 28 0 := rfl
  rw [e1, if_neg hob, tnI (show m < 2 ^ 31 by omega), e2]
  have e3 : (up (up σ 29 m g) 30 m (σ.1 28 0)).1 27 8 = nI m := h8
  have e4 : (up (up σ 29 m g) 30 m (σ.1 28 0)).1 28 2 = σ.1 28 2 := rfl
  rw [e3, e4, come198 hm e3 hb hs, come198 hm e3 hb hs]
  unfold fin push
  rcases hs with rfl | rfl
  · rw [if_pos rfl, if_pos rfl]; rfl
  · rw [if_neg (by decide), if_neg (by decide)]; rfl
theorem comeUp_no {n : Nat} (hn : n ≤ 5) {σ : St} (h : σ.1 1 5 = nI n) {g : Int32} (hg : ¬ (0 ≤ g.toInt ∧ g.toInt < n)) : X1_comeUp g σ = some (0, σ) := by
  unfold X1_comeUp
  rw [has_eq hn h, if_neg hg]
  rfl
/-- what coming up may change -/
def EXu (σ σ' : St) : Prop := ∀ a b, a ≠ 24 → (a < 27 ∨ 33 < a) → σ'.1 a b = σ.1 a b
theorem EXu.refl (σ : St) : EXu σ σ := fun _ _ _ _ => rfl
theorem EXu.trans {a b c : St} (h1 : EXu a b) (h2 : EXu b c) : EXu a c := fun i j h k => (h2 i j h k).trans (h1 i j h k)
theorem sc_u {a b : Nat} (h : scX a b = false) : a ≠ 24 ∧ (a < 27 ∨ 33 < a) := by
  refine ⟨fun q => ?_, Decidable.byContradiction fun q => ?_⟩
  · subst q
    exact Bool.noConfusion (show true = false from h)
  · rcases (show a = 27 ∨ a = 28 ∨ a = 29 ∨ a = 30 ∨ a = 31 ∨ a = 32 ∨ a = 33 by omega) with rfl | rfl | rfl | rfl | rfl | rfl | rfl <;> exact Bool.noConfusion (show true = false from h)
theorem EXu.ex {σ σ' : St} (h : EXu σ σ') : EX σ σ' := fun a b hs => h a b (sc_u hs).1 (sc_u hs).2
theorem push_o {σ : St} {m : Nat} {g t v b s : Int32} {x y : Nat} (h : x < 27 ∨ x = 28 ∨ 33 < x ∨ (28 < x ∧ y ≠ m)) : (push σ m g t v b s).1 x y = σ.1 x y := by
  unfold push
  rw [up_lo (by omega), up_lo (by omega), up_get, if_neg (by omega), up_get, if_neg (by omega), up_get, if_neg (by omega), up_get, if_neg (by omega), up_get, if_neg (by omega)]
theorem comeUp_yes {e : Evg} {pre : List Nat} {σ : St} (ho : EnvOk e) (h : HoldX e pre σ) {g : Nat} (hg : g < e.n) (hp : g ∉ pre) : ∃ σ', X1_comeUp (nI g) σ = some ((1 : Int32), σ') ∧ HoldX e (g :: pre) σ' ∧ EXu σ σ' := by
  obtain ⟨hE, hO, h8, ⟨M, m1, m2, m3⟩, hc⟩ := id h
  have hO' : OkP e (g :: pre) := ⟨List.nodup_cons.mpr ⟨hp, hO.1⟩, fun x hx => by
    rcases List.mem_cons.mp hx with rfl | hx
    · exact hg
    · exact hO.2 x hx⟩
  have hn := ho.1
  have hlen : pre.length < 5 := by have := hO'.len; simp only [List.length_cons] at this; omega
  obtain ⟨σ1, a1, a2, a3⟩ := hear_eq hn ho.2.1 hg hE (by omega) h8 hc
  have x1 : EXu σ σ1 := fun a b _ q => a2 a b (by omega)
  have E1 := hE.keep ho.2.1 x1.ex
  obtain ⟨σ2, b1', b2⟩ := coolsX E1 a3
  have x2 : EXu σ1 σ2 := fun a b q _ => b2 a b q
  have E2 := E1.keep ho.2.1 x2.ex
  have a4 := a3.keep (fun b => b2 28 b (by decide))
  obtain ⟨σ3, c1, c2⟩ := warmsX E2 a4
  have x3 : EXu σ2 σ3 := fun a b q _ => c2 a b q
  have E3 := E2.keep ho.2.1 x3.ex
  have a5 := a4.keep (fun b => c2 28 b (by decide))
  have key : X1_comeUp (nI g) σ = if nw e g pre < e.lim then X1_comeUp_b103 (nI g) 0 (up σ3 28 2 (nw e g pre)) else X1_comeUp_b103 (nI g) 1 (up σ3 28 2 (nw e g pre)) := by
    unfold X1_comeUp
    rw [has_eq hn hE.1, Option.bind_some, tiI (by omega), if_pos (show (0 : Int) ≤ ((g : Nat) : Int) ∧ ((g : Nat) : Int) < (e.n : Int) by omega), if_neg (show ¬ (1 : Int32) = 0 by decide), hasCome_eq hn h hg, Option.bind_some, if_neg hp, if_pos rfl, h8, if_neg (nI_pos (by omega)), if_pos (show nI pre.length < 5 from nI_lt hlen (by decide)), a1, Option.bind_some, b1', Option.bind_some, c1, Option.bind_some, withinX, Option.bind_some, withinX, Option.bind_some]
    rw [a5.2.2.1]
    have q1 : (up σ3 28 2 (wthn (wthn (wmt e pre - colW e g pre (wmt e pre)) 0 99 + wrmW e g pre (wmt e pre)) 0 99)).1 1 1 = e.lim := E3.2.2.1
    rw [q1, up_eq]
    rfl
  rw [key]
  have H4 : HeardX e g pre (nw e g pre) (up σ3 28 2 (nw e g pre)) := by
    obtain ⟨z0, z1, z2, z3, z4, z5, z6, z7, z8⟩ := a5
    exact ⟨z0, z1, up_eq, z3, z4, z5, z6, z7, z8⟩
  have x4 : EXu σ3 (up σ3 28 2 (nw e g pre)) := fun a b _ q => up_lo (by omega)
  have E4 := E3.keep ho.2.1 x4.ex
  -- the last rows, for any state like this one
  have last : ∀ (τ : St) (b s : Int32), b1 b → b1 s → b = bo e g pre → s = sc e g pre → HeardX e g pre (nw e g pre) τ → (∀ x y, x ≠ 24 → x ≠ 28 → τ.1 x y = σ.1 x y) → ∃ σ', X1_comeUp_b138 (nI g) b s τ = some ((1 : Int32), σ') ∧ HoldX e (g :: pre) σ' ∧ EXu σ σ' := fun τ b s hb hs eb es hH hτ => by
    have t8 : τ.1 27 8 = nI pre.length := (hτ _ _ (by decide) (by decide)).trans h8
    have hx : EXu σ (push τ pre.length (nI g) (e.T g) (fin s (nw e g pre)) b s) := fun x y q1 q2 => by
      rw [push_o (by omega)]
      exact hτ x y q1 (by omega)
    refine ⟨_, by rw [come138 hlen t8 hb hs, hH.1, hH.2.2.1], ⟨hE.keep ho.2.1 hx.ex, hO', rfl, ?_, ?_⟩, hx⟩
    · obtain ⟨s1, s2, s3⟩ := bit_set M m1 g (by omega)
      refine ⟨M ||| 2 ^ g, s2, ?_, fun y hy => ?_⟩
      · show τ.1 27 9 ||| (1 <<< (nI g &&& 31)) = _
        rw [hτ _ _ (by decide) (by decide), m2]
        exact s1
      · rw [s3 y hy, m3 y hy]
        simp [List.mem_cons]
    · refine ⟨?_, ?_, ?_, ?_, ?_, hc.keep (fun x y p q hy => ?_)⟩
      · unfold push
        rw [up_lo (by decide), up_lo (by decide), up_lo (by decide), up_lo (by decide), up_lo (by decide), up_lo (by decide), up_eq]
      · unfold push
        rw [up_lo (by decide), up_lo (by decide), up_lo (by decide), up_lo (by decide), up_lo (by decide), up_eq]
      · unfold push
        rw [up_lo (by decide), up_lo (by decide), up_lo (by decide), up_lo (by decide), up_eq, es, wmt_cons]
      · unfold push
        rw [up_lo (by decide), up_lo (by decide), up_lo (by decide), up_eq, eb]
      · unfold push
        rw [up_lo (by decide), up_lo (by decide), up_eq, es]
      · rw [push_o (by omega)]
        exact hτ x y (by omega) (by omega)
  have hτ4 : ∀ x y, x ≠ 24 → x ≠ 28 → (up σ3 28 2 (nw e g pre)).1 x y = σ.1 x y := fun x y q1 q2 => by
    rw [up_lo q2, c2 x y q1, b2 x y q1, a2 x y q2]
  by_cases c : nw e g pre < e.lim
  · rw [if_pos c]
    unfold X1_comeUp_b103
    rw [if_pos rfl]
    exact last _ 0 0 (Or.inl rfl) (Or.inl rfl) (by unfold bo boilV; rw [if_pos c]) (by unfold sc scrV; rw [if_pos c]) H4 hτ4
  · rw [if_neg c]
    unfold X1_comeUp_b103
    obtain ⟨σ5, d1, d2⟩ := tellX E4 H4 (p := 2) (by decide)
    rw [if_neg (show ¬ (1 : Int32) = 0 by decide), show (-18 : Int32) = pcode 2 from rfl, d1, Option.bind_some]
    have hτ5 : ∀ x y, x ≠ 24 → x ≠ 28 → σ5.1 x y = σ.1 x y := fun x y q1 q2 => (d2 x y q1).trans (hτ4 x y q1 q2)
    have H5 := H4.keep (fun b => d2 28 b (by decide))
    by_cases c3 : e.ev 2 (nms e g pre (nw e g pre)) = 0
    · rw [if_pos c3]
      exact last _ 1 0 (Or.inr rfl) (Or.inl rfl) (by unfold bo boilV; rw [if_neg c]) (by unfold sc scrV; rw [if_neg c, if_pos c3]) H5 hτ5
    · rw [if_neg c3]
      exact last _ 1 1 (Or.inr rfl) (Or.inr rfl) (by unfold bo boilV; rw [if_neg c]) (by unfold sc scrV; rw [if_neg c, if_neg c3]) H5 hτ5
