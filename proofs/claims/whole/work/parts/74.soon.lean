/-- the rest come behind, by their numbers -/
def fil : Nat → Nat → List Nat → List Nat
  | 0, _, w => w
  | c + 1, i, w => if i ∈ w then fil c (i + 1) w else fil c (i + 1) (i :: w)
def soon : Option (List Nat) → Nat → Bool
  | none, _ => true
  | some p, m => decide (m + 1 < p.length)
/-- one step of the search for the soonest -/
def sF (e : Evg) (f : List Nat → Option (List Nat) → Option (List Nat)) (pre : List Nat) (g : Nat) (a : Option (List Nat)) : Option (List Nat) := if soon a pre.length = true then (if g ∈ pre then a else if bo e g pre = 0 then f (g :: pre) a else some (g :: pre)) else a
def cS (e : Evg) : Nat → List Nat → Option (List Nat) → Option (List Nat)
  | 0, _, a => a
  | d + 1, pre, a => lpF (sF e (fun p b => cS e d p b) pre) e.n 0 a
theorem lpF_id {α : Type} {f : Nat → α → α} {a : α} : ∀ (c i : Nat), (∀ j, i ≤ j → j < i + c → f j a = a) → lpF f c i a = a := by
  intro c
  induction c with
  | zero => intro i _; rfl
  | succ c ih =>
    intro i h
    unfold lpF
    rw [h i (Nat.le_refl _) (by omega)]
    exact ih (i + 1) (fun j h1 h2 => h j (by omega) (by omega))
def SXr (e : Evg) : Option (List Nat) → St → Prop
  | none, σ => σ.1 34 3 = -1 ∧ σ.1 34 4 = -1 ∧ σ.1 34 5 = -1
  | some p, σ => (0 < p.length ∧ p.length ≤ 5) ∧ σ.1 34 3 = dgI (fil e.n 0 p) ∧ σ.1 34 4 = nI (p.length - 1) ∧ σ.1 34 5 = dgI p
theorem SXr.keep {e : Evg} {σ σ' : St} (k : ∀ y, σ'.1 34 y = σ.1 34 y) : ∀ {a : Option (List Nat)}, SXr e a σ → SXr e a σ'
  | none, h => ⟨(k _).trans h.1, (k _).trans h.2.1, (k _).trans h.2.2⟩
  | some p, h => ⟨h.1, (k _).trans h.2.1, (k _).trans h.2.2.1, (k _).trans h.2.2.2⟩
theorem all7 {e : Evg} {w : List Nat} {σ : St} (hn : e.n ≤ 5) (h : HoldX e w σ) : ∀ (c i F : Nat) (acc : List Nat), i + c = e.n → c < F → (∀ y, i ≤ y → (y ∈ acc ↔ y ∈ w)) → X1_digitsOfAll_b7 F (dgI acc) (nI i) σ = some (dgI (fil c i acc)) := by
  intro c
  induction c with
  | zero =>
    intro i F acc hi hF ha
    obtain ⟨F', rfl⟩ : ∃ F', F = F' + 1 := ⟨F - 1, by omega⟩
    rw [X1_digitsOfAll_b7, h.1.1, if_pos (show nI e.n ≤ nI i by rw [nI_leI (by omega) (by omega)]; omega)]
    rfl
  | succ c ih =>
    intro i F acc hi hF ha
    obtain ⟨F', rfl⟩ : ∃ F', F = F' + 1 := ⟨F - 1, by omega⟩
    rw [X1_digitsOfAll_b7, h.1.1, if_neg (show ¬ nI e.n ≤ nI i by rw [nI_leI (by omega) (by omega)]; omega), hasCome_eq hn h (by omega), Option.bind_some, nI_1]
    unfold fil
    by_cases z : i ∈ w
    · rw [if_pos z, if_neg ne10, if_pos ((ha i (Nat.le_refl _)).mpr z)]
      exact ih (i + 1) F' acc (by omega) (by omega) (fun y hy => ha y (by omega))
    · rw [if_neg z, if_pos rfl, if_neg (fun q => z ((ha i (Nat.le_refl _)).mp q))]
      exact ih (i + 1) F' (i :: acc) (by omega) (by omega) (fun y hy => by
        rw [List.mem_cons, ha y (by omega)]
        exact ⟨fun q => q.elim (fun u => by omega) id, Or.inr⟩)
theorem digitsAll {e : Evg} {w : List Nat} {σ : St} (hn : e.n ≤ 5) (h : HoldX e w σ) : X1_digitsOfAll σ = some (dgI (fil e.n 0 w)) := by
  have hl := h.2.1.len
  unfold X1_digitsOfAll
  rw [digitsX (by omega) h.2.2.1 h.2.2.2.2, Option.bind_some]
  exact all7 hn h e.n 0 FU w (by omega) (by rw [FU_eq]; omega) (fun _ _ => Iff.rfl)
theorem isSooner_eq {e : Evg} {a : Option (List Nat)} {σ : St} (hn : e.n ≤ 5) (h5 : σ.1 1 5 = nI e.n) (hS : SXr e a σ) {m : Nat} (hm : m < e.n) : X0_isSooner (nI m) σ = some (if soon a m = true then 1 else 0) := by
  unfold X0_isSooner
  rw [h5, if_neg (show ¬ nI e.n ≤ nI m by rw [nI_leI (by omega) (by omega)]; omega)]
  cases a with
  | none =>
    rw [hS.2.1, if_pos rfl]
    rfl
  | some p =>
    obtain ⟨h1, h2, h3, h4⟩ := hS
    rw [h3, if_neg (nI_ne1 (by omega))]
    unfold soon
    by_cases c : m + 1 < p.length
    · rw [if_neg (show ¬ nI (p.length - 1) ≤ nI m by rw [nI_leI (by omega) (by omega)]; omega), if_pos (decide_eq_true c)]
    · rw [if_pos (show nI (p.length - 1) ≤ nI m by rw [nI_leI (by omega) (by omega)]; omega), if_neg (fun q => c (of_decide_eq_true q))]
theorem fb_cons {e : Evg} {g : Nat} {pre : List Nat} (h : fb e pre = -1) : fb e (g :: pre) = if bo e g pre = 0 then -1 else nI pre.length := if_pos h
theorem cSX {e : Evg} (ho : EnvOk e) : ∀ (d R : Nat) (pre : List Nat) (σ : St) (a : Option (List Nat)), HoldX e pre σ → pre.length + d = e.n → d ≤ R → fb e pre = -1 → SXr e a σ → ∃ σ', X0_seekSoonestBehind (X0_seekSoonestBehind_K R) (nI pre.length) σ = some σ' ∧ HoldX e pre σ' ∧ SXr e (cS e d pre a) σ' ∧ EX σ σ' := by
  have hn := ho.1
  intro d
  induction d with
  | zero =>
    intro R pre σ a h hd hR hf hS
    have hl := h.2.1.len
    refine ⟨σ, ?_, h, hS, EX.refl σ⟩
    unfold X0_seekSoonestBehind
    rw [FU_eq, X0_seekSoonestBehind_b2, h.1.1]
    by_cases z : nI e.n ≤ 0
    · rw [if_pos z]
    · rw [if_neg z]
      unfold X0_isSooner
      rw [h.1.1, if_pos (show nI e.n ≤ nI pre.length by rw [nI_leI (by omega) (by omega)]; omega), Option.bind_some, if_pos rfl]
  | succ d ih =>
    intro R pre σ a h hd hR hf hS
    obtain ⟨R', rfl⟩ : ∃ R', R = R' + 1 := ⟨R - 1, by omega⟩
    have hl := h.2.1.len
    have loop : ∀ (c i F : Nat) (σ : St) (a : Option (List Nat)), i + c = e.n → c < F → HoldX e pre σ → SXr e a σ → ∃ σ', X0_seekSoonestBehind_b2 (X0_seekSoonestBehind_K (R' + 1)) F (nI pre.length) (nI i) σ = some σ' ∧ HoldX e pre σ' ∧ SXr e (lpF (sF e (fun p b => cS e d p b) pre) c i a) σ' ∧ EX σ σ' := by
      intro c
      induction c with
      | zero =>
        intro i F σ a hi hF h hS
        obtain ⟨F', rfl⟩ : ∃ F', F = F' + 1 := ⟨F - 1, by omega⟩
        rw [X0_seekSoonestBehind_b2, h.1.1, if_pos (show nI e.n ≤ nI i by rw [nI_leI (by omega) (by omega)]; omega)]
        exact ⟨σ, rfl, h, hS, EX.refl σ⟩
      | succ c ihc =>
        intro i F σ a hi hF h hS
        obtain ⟨F', rfl⟩ : ∃ F', F = F' + 1 := ⟨F - 1, by omega⟩
        rw [X0_seekSoonestBehind_b2, h.1.1, if_neg (show ¬ nI e.n ≤ nI i by rw [nI_leI (by omega) (by omega)]; omega), isSooner_eq hn h.1.1 hS (by omega), Option.bind_some]
        by_cases c1 : soon a pre.length = true
        · rw [if_pos c1, if_neg ne10]
          unfold lpF
          by_cases c2 : i ∈ pre
          · rw [comeUp_come ho h (by omega) c2, Option.bind_some, if_pos rfl, show sF e (fun p b => cS e d p b) pre i a = a from (if_pos c1).trans (if_pos c2), nI_1]
            exact ihc (i + 1) F' σ a (by omega) (by omega) h hS
          · obtain ⟨σ1, a1, a2, a3⟩ := comeUp_yes ho h (g := i) (by omega) c2
            have hl1 := a2.2.1.len
            have S1 : SXr e a σ1 := hS.keep (fun y => a3 _ _ (by decide) (by decide))
            rw [a1, Option.bind_some, if_neg ne10, boilX (by omega) a2.2.2.1 a2.2.2.2.2, Option.bind_some, fb_cons hf]
            by_cases c3 : bo e i pre = 0
            · rw [if_pos c3, if_pos rfl, nI_1, show sF e (fun p b => cS e d p b) pre i a = cS e d (i :: pre) a from ((if_pos c1).trans (if_neg c2)).trans (if_pos c3)]
              obtain ⟨σ2, b1', b2, b3, b4⟩ := ih R' (i :: pre) σ1 a a2 (by simp only [List.length_cons]; omega) (by omega) ((fb_cons hf).trans (if_pos c3)) S1
              obtain ⟨σ3, d1, d2, d3⟩ := goBack_eq hn b2 ho.2.1
              obtain ⟨σ4, f1, f2, f3, f4⟩ := ihc (i + 1) F' σ3 _ (by omega) (by omega) d2 (b3.keep (fun y => d3 _ _ (by decide) (by decide)))
              refine ⟨σ4, ?_, f2, f3, ((a3.ex.trans b4).trans d3.ex).trans f4⟩
              rw [show X0_seekSoonestBehind_K (R' + 1) (nI (pre.length + 1)) σ1 = some σ2 from b1', Option.bind_some]
              unfold X0_seekSoonestBehind_b83
              rw [d1, Option.bind_some, nI_1]
              exact f1
            · rw [if_neg c3, if_neg (nI_ne1 (by omega)), show sF e (fun p b => cS e d p b) pre i a = some (i :: pre) from ((if_pos c1).trans (if_neg c2)).trans (if_neg c3)]
              have k1 : HoldX e (i :: pre) (up σ1 34 4 (nI pre.length)) := a2.kp ho.2.1 (ex_up (by decide) (by decide)) (fun x y p q => up_lo (by omega))
              rw [digitsX (by omega) k1.2.2.1 k1.2.2.2.2, Option.bind_some]
              have k2 : HoldX e (i :: pre) (up (up σ1 34 4 (nI pre.length)) 34 5 (dgI (i :: pre))) := k1.kp ho.2.1 (ex_up (by decide) (by decide)) (fun x y p q => up_lo (by omega))
              rw [digitsAll hn k2, Option.bind_some]
              have k3 : HoldX e (i :: pre) (up (up (up σ1 34 4 (nI pre.length)) 34 5 (dgI (i :: pre))) 34 3 (dgI (fil e.n 0 (i :: pre)))) := k2.kp ho.2.1 (ex_up (by decide) (by decide)) (fun x y p q => up_lo (by omega))
              obtain ⟨σ3, d1, d2, d3⟩ := goBack_eq hn k3 ho.2.1
              have S3 : SXr e (some (i :: pre)) σ3 := by
                refine SXr.keep (fun y => d3 _ _ (by decide) (by decide)) (⟨⟨by simp, by omega⟩, up_eq, ?_, ?_⟩ : SXr e (some (i :: pre)) (up (up (up σ1 34 4 (nI pre.length)) 34 5 (dgI (i :: pre))) 34 3 (dgI (fil e.n 0 (i :: pre)))))
                · rw [up_pl (by decide), up_pl (by decide), up_eq]
                  simp
                · rw [up_pl (by decide), up_eq]
              obtain ⟨σ4, f1, f2, f3, f4⟩ := ihc (i + 1) F' σ3 _ (by omega) (by omega) d2 S3
              refine ⟨σ4, ?_, f2, f3, ((a3.ex.trans (((ex_up (by decide) (by decide)).trans (ex_up (by decide) (by decide))).trans (ex_up (by decide) (by decide)))).trans d3.ex).trans f4⟩
              unfold X0_seekSoonestBehind_b83
              rw [d1, Option.bind_some, nI_1]
              exact f1
        · rw [if_neg c1, if_pos rfl]
          refine ⟨σ, rfl, h, ?_, EX.refl σ⟩
          rw [lpF_id (f := sF e (fun p b => cS e d p b) pre) (a := a) (c + 1) i (fun j _ _ => if_neg c1)]
          exact hS
    unfold X0_seekSoonestBehind
    exact loop e.n 0 FU σ a (by omega) (by rw [FU_eq]; omega) h hS
/-- the reference's search -/
def upR (w : List Nat) (v : Int32) : Option (List Nat × Int32) → Option (List Nat × Int32)
  | none => some (w, v)
  | some q => if q.2 ≤ v then some q else some (w, v)
def rSe (e : Evg) : Nat → List Nat → Option (List Nat × Int32) → Option (List Nat × Int32)
  | 0, pre, a => if fb e pre = -1 then a else upR pre (fb e pre) a
  | d + 1, pre, a => lpF (fun g a => if g ∈ pre then a else rSe e d (g :: pre) a) e.n 0 a
def SMr : Option (List Nat × Int32) → St → Prop
  | none, μ => μ.1 0 31 = 0
  | some q, μ => μ.1 0 31 = 1 ∧ μ.1 0 32 = dgI q.1 ∧ μ.1 0 33 = q.2
theorem SMr.keep {μ μ' : St} (k : ∀ y, 31 ≤ y → μ'.1 0 y = μ.1 0 y) : ∀ {a : Option (List Nat × Int32)}, SMr a μ → SMr a μ'
  | none, h => (k _ (by decide)).trans h
  | some q, h => ⟨(k _ (by decide)).trans h.1, (k _ (by decide)).trans h.2.1, (k _ (by decide)).trans h.2.2⟩
theorem rSM {e : Evg} (ho : EnvOk e) : ∀ (d R : Nat) (pre : List Nat) (μ : St) (M : Nat) (a : Option (List Nat × Int32)), HoldM e pre μ → SetM e.n 9 pre M → pre.length + d = e.n → d ≤ R → SMr a μ → ∃ μ', X10_seeksSoonest (X10_seeksSoonest_K R) (nI M) (nI pre.length) (dgI pre) μ = some μ' ∧ HoldM e pre μ' ∧ SMr (rSe e d pre a) μ' ∧ EM μ μ' := by
  have hn := ho.1
  intro d
  induction d with
  | zero =>
    intro R pre μ M a h hM hd hR hA
    have hl := h.2.1.len
    have h9 : 9 ∉ pre := fun q => by have := h.2.1.2 9 q; omega
    have yes : ∃ μ', X10_seeksSoonest_b33 (X10_seeksSoonest_K R) (dgI pre) (fb e pre) μ = some μ' ∧ HoldM e pre μ' ∧ SMr (some (pre, fb e pre)) μ' ∧ EM μ μ' := by
      have x : EM μ (up (up (up μ 0 31 1) 0 32 (dgI pre)) 0 33 (fb e pre)) := ((em_up0 (by decide) (by decide)).trans (em_up0 (by decide) (by decide))).trans (em_up0 (by decide) (by decide))
      refine ⟨_, rfl, h.kp x (fun a b p q => by rw [up_lo (by omega), up_lo (by omega), up_lo (by omega)]), ⟨?_, ?_, ?_⟩, x⟩
      · rw [up_pl (by decide), up_pl (by decide), up_eq]
      · rw [up_pl (by decide), up_eq]
      · rw [up_eq]
    unfold X10_seeksSoonest
    rw [if_pos ((hM.zero hn h.2.1 h9 (by rw [all9 hn]; exact hd)).mpr rfl), boilM (by omega) h.2.2, Option.bind_some]
    unfold rSe
    by_cases c : fb e pre = -1
    · rw [if_pos c, if_pos c]
      exact ⟨μ, rfl, h, hA, EM.refl μ⟩
    · rw [if_neg c, if_neg c]
      cases a with
      | none =>
        rw [show μ.1 0 31 = 0 from hA, if_pos rfl]
        exact yes
      | some q =>
        obtain ⟨z1, z2, z3⟩ := hA
        rw [z1, if_neg ne10, z3, show upR pre (fb e pre) (some q) = if q.2 ≤ fb e pre then some q else some (pre, fb e pre) from rfl]
        by_cases c2 : q.2 ≤ fb e pre
        · rw [if_pos c2, if_pos c2]
          exact ⟨μ, rfl, h, ⟨z1, z2, z3⟩, EM.refl μ⟩
        · rw [if_neg c2, if_neg c2]
          exact yes
  | succ d ih =>
    intro R pre μ M a h hM hd hR hA
    obtain ⟨R', rfl⟩ : ∃ R', R = R' + 1 := ⟨R - 1, by omega⟩
    have hl := h.2.1.len
    have h9 : 9 ∉ pre := fun q => by have := h.2.1.2 9 q; omega
    have loop : ∀ (c i F : Nat) (μ : St) (a : Option (List Nat × Int32)), i + c = e.n → c < F → HoldM e pre μ → SMr a μ → ∃ μ', X10_seeksSoonest_b53 (X10_seeksSoonest_K (R' + 1)) F (nI M) (nI pre.length) (dgI pre) (nI i) μ = some μ' ∧ HoldM e pre μ' ∧ SMr (lpF (fun g a => if g ∈ pre then a else rSe e d (g :: pre) a) c i a) μ' ∧ EM μ μ' := by
      intro c
      induction c with
      | zero =>
        intro i F μ a hi hF h hA
        obtain ⟨F', rfl⟩ : ∃ F', F = F' + 1 := ⟨F - 1, by omega⟩
        rw [X10_seeksSoonest_b53, h.1.1, if_pos (show nI e.n ≤ nI i by rw [nI_leI (by omega) (by omega)]; omega)]
        exact ⟨μ, rfl, h, hA, EM.refl μ⟩
      | succ c ihc =>
        intro i F μ a hi hF h hA
        obtain ⟨F', rfl⟩ : ∃ F', F = F' + 1 := ⟨F - 1, by omega⟩
        rw [X10_seeksSoonest_b53, h.1.1, if_neg (show ¬ nI e.n ≤ nI i by rw [nI_leI (by omega) (by omega)]; omega), nI_1, nI_1]
        unfold lpF
        by_cases c1 : i ∈ pre
        · rw [if_neg (fun q => by have := (hM.bit (show i < 5 by omega)).mp q; exact this.2.2 c1), if_pos c1]
          exact ihc (i + 1) F' μ a (by omega) (by omega) h hA
        · rw [if_pos ((hM.bit (show i < 5 by omega)).mpr ⟨by omega, by omega, c1⟩), if_neg c1]
          obtain ⟨μ1, a1, a2, a3⟩ := comes_eq ho h (g := i) (by omega) c1
          obtain ⟨M', m1, m2⟩ := hM.take (show i < 5 by omega)
          obtain ⟨μ2, b1', b2, b3, b4⟩ := ih R' (i :: pre) μ1 M' a a2 m2 (by simp only [List.length_cons]; omega) (by omega) (hA.keep (fun y p => a3 _ _ (by decide) (by omega)))
          obtain ⟨μ3, c1', c2', c3', c4⟩ := ihc (i + 1) F' μ2 (rSe e d (i :: pre) a) (by omega) (by omega) b2.tail b3
          refine ⟨μ3, ?_, c2', c3', (a3.em.trans b4).trans c4⟩
          rw [a1, Option.bind_some, m1, show (10 : Int32) * dgI pre + nI i + 1 = dgI (i :: pre) by rw [Int32.mul_comm]; rfl]
          rw [show X10_seeksSoonest_K (R' + 1) (nI M') (nI (pre.length + 1)) (dgI (i :: pre)) μ1 = some μ2 from b1', Option.bind_some]
          exact c1'
    unfold X10_seeksSoonest
    rw [if_neg (fun q => absurd ((hM.zero hn h.2.1 h9 (by rw [all9 hn]; exact hd)).mp q) (by omega))]
    exact loop e.n 0 FU μ a (by omega) (by rw [FU_eq]; omega) h hA
/-- filling up -/
theorem fil_full : ∀ (c i : Nat) (w : List Nat), (∀ j, i ≤ j → j < i + c → j ∈ w) → fil c i w = w := by
  intro c
  induction c with
  | zero => intro i w _; rfl
  | succ c ih =>
    intro i w h
    unfold fil
    rw [if_pos (h i (Nat.le_refl _) (by omega))]
    exact ih (i + 1) w (fun j h1 h2 => h j (by omega) (by omega))
theorem fil_first : ∀ (c i g : Nat) (w : List Nat), (∀ j, i ≤ j → j < g → j ∈ w) → g ∉ w → i ≤ g → g < i + c → fil c i w = fil c i (g :: w) := by
  intro c
  induction c with
  | zero => intro i g w _ _ h1 h2; omega
  | succ c ih =>
    intro i g w h hg h1 h2
    unfold fil
    by_cases z : i = g
    · subst z
      rw [if_neg hg, if_pos List.mem_cons_self]
    · have hi := h i (Nat.le_refl _) (by omega)
      rw [if_pos hi, if_pos (List.mem_cons_of_mem _ hi)]
      exact ih (i + 1) g w (fun j h3 h4 => h j (by omega) h4) hg (by omega) (by omega)
theorem OkP.cons {e : Evg} {g : Nat} {pre : List Nat} (h : OkP e pre) (hg : g < e.n) (hp : g ∉ pre) : OkP e (g :: pre) := ⟨List.nodup_cons.mpr ⟨hp, h.1⟩, fun x hx => by
  rcases List.mem_cons.mp hx with rfl | hx
  · exact hg
  · exact h.2 x hx⟩
theorem OkP.all {e : Evg} {pre : List Nat} (h : OkP e pre) (hl : pre.length = e.n) {g : Nat} (hg : g < e.n) : g ∈ pre := by
  refine Decidable.byContradiction fun q => ?_
  have := (h.cons hg q).len
  simp only [List.length_cons] at this
  omega
theorem soonA {e : Evg} {v : Int32} (hv : v ≠ -1) : ∀ (d : Nat) (pre : List Nat) (a : Option (List Nat × Int32)), OkP e pre → pre.length + d = e.n → fb e pre = v → rSe e d pre a = upR (fil e.n 0 pre) v a := by
  intro d
  induction d with
  | zero =>
    intro pre a hO hd hf
    unfold rSe
    rw [if_neg (by rw [hf]; exact hv), hf, fil_full e.n 0 pre (fun j _ h => hO.all (by omega) (by omega))]
  | succ d ih =>
    intro pre a hO hd hf
    have hstep : ∀ i, i < e.n → i ∉ pre → ∀ a, rSe e d (i :: pre) a = upR (fil e.n 0 (i :: pre)) v a := fun i hi hp a => ih (i :: pre) a (hO.cons hi hp) (by simp only [List.length_cons]; omega) (by
      show (if fb e pre = -1 then _ else fb e pre) = v
      rw [if_neg (by rw [hf]; exact hv), hf])
    have keepL : ∀ q : List Nat × Int32, q.2 ≤ v → ∀ (c i : Nat), i + c = e.n → lpF (fun g a => if g ∈ pre then a else rSe e d (g :: pre) a) c i (some q) = some q := fun q hq c i hi => lpF_id c i (fun j h1 h2 => by
      by_cases z : j ∈ pre
      · exact if_pos z
      · exact (if_neg z).trans ((hstep j (by omega) z _).trans (if_pos hq)))
    have better : ∀ a, (∀ w, upR w v a = some (w, v)) → ∀ (c i : Nat), i + c = e.n → (∀ j, j < i → j ∈ pre) → lpF (fun g a => if g ∈ pre then a else rSe e d (g :: pre) a) c i a = some (fil e.n 0 pre, v) := fun a ha c => by
      induction c with
      | zero =>
        intro i hi hj
        have := cover e.n pre (fun g hg => hj g (by omega))
        omega
      | succ c ihc =>
        intro i hi hj
        unfold lpF
        by_cases z : i ∈ pre
        · rw [if_pos z]
          exact ihc (i + 1) (by omega) (fun j h => by
            by_cases y : j = i
            · exact y ▸ z
            · exact hj j (by omega))
        · rw [if_neg z, hstep i (by omega) z, ha, fil_first e.n 0 i pre (fun j _ h => hj j h) z (Nat.zero_le _) (by omega)]
          exact keepL _ (by rw [Int32.le_iff_toInt_le]; exact Int.le_refl _) c (i + 1) (by omega)
    unfold rSe
    cases a with
    | none => exact better none (fun w => rfl) e.n 0 (by omega) (fun j h => by omega)
    | some q =>
      by_cases c : q.2 ≤ v
      · rw [keepL q c e.n 0 (by omega)]
        exact (if_pos c).symm
      · rw [better (some q) (fun w => if_neg c) e.n 0 (by omega) (fun j h => by omega)]
        exact (if_neg c).symm
theorem soonC {e : Evg} (hn : e.n ≤ 5) : ∀ (d : Nat) (pre : List Nat) (q : List Nat) (w : Nat), OkP e pre → pre.length + d = e.n → fb e pre = -1 → w ≤ pre.length → rSe e d pre (some (q, nI w)) = some (q, nI w) := by
  intro d
  induction d with
  | zero =>
    intro pre q w hO hd hf hw
    unfold rSe
    rw [if_pos hf]
  | succ d ih =>
    intro pre q w hO hd hf hw
    unfold rSe
    refine lpF_id e.n 0 (fun j _ h2 => ?_)
    by_cases z : j ∈ pre
    · exact if_pos z
    · refine (if_neg z).trans ?_
      have hl : (j :: pre).length + d = e.n := by simp only [List.length_cons]; omega
      by_cases c : bo e j pre = 0
      · exact ih (j :: pre) q w (hO.cons (by omega) z) hl ((fb_cons hf).trans (if_pos c)) (by simp only [List.length_cons]; omega)
      · rw [soonA (nI_ne1 (by omega)) d (j :: pre) _ (hO.cons (by omega) z) hl ((fb_cons hf).trans (if_neg c))]
        exact if_pos ((nI_leI (by omega) (by omega)).mpr hw)
def RR (e : Evg) (a : Option (List Nat)) (b : Option (List Nat × Int32)) : Prop := (a = none ∧ b = none) ∨ ∃ p, a = some p ∧ 0 < p.length ∧ p.length ≤ 5 ∧ b = some (fil e.n 0 p, nI (p.length - 1))
theorem soonB {e : Evg} (hn : e.n ≤ 5) : ∀ (d : Nat) (pre : List Nat) (a : Option (List Nat)) (b : Option (List Nat × Int32)), OkP e pre → pre.length + d = e.n → fb e pre = -1 → RR e a b → RR e (cS e d pre a) (rSe e d pre b) := by
  intro d
  induction d with
  | zero =>
    intro pre a b hO hd hf h
    unfold cS rSe
    rw [if_pos hf]
    exact h
  | succ d ih =>
    intro pre a b hO hd hf h
    have loop : ∀ (c i : Nat) (a : Option (List Nat)) (b : Option (List Nat × Int32)), i + c = e.n → RR e a b → RR e (lpF (sF e (fun p b => cS e d p b) pre) c i a) (lpF (fun g a => if g ∈ pre then a else rSe e d (g :: pre) a) c i b) := by
      intro c
      induction c with
      | zero => intro i a b _ h; exact h
      | succ c ihc =>
        intro i a b hi h
        unfold lpF
        refine ihc (i + 1) _ _ (by omega) ?_
        have hl : (i :: pre).length + d = e.n := by simp only [List.length_cons]; omega
        by_cases z : i ∈ pre
        · have e1 : sF e (fun p b => cS e d p b) pre i a = a := by
            unfold sF
            by_cases c1 : soon a pre.length = true
            · rw [if_pos c1, if_pos z]
            · rw [if_neg c1]
          rw [e1, if_pos z]
          exact h
        · rw [if_neg z]
          have hO' := hO.cons (show i < e.n by omega) z
          by_cases c1 : soon a pre.length = true
          · by_cases c2 : bo e i pre = 0
            · rw [show sF e (fun p b => cS e d p b) pre i a = cS e d (i :: pre) a from ((if_pos c1).trans (if_neg z)).trans (if_pos c2)]
              exact ih (i :: pre) a b hO' hl ((fb_cons hf).trans (if_pos c2)) h
            · rw [show sF e (fun p b => cS e d p b) pre i a = some (i :: pre) from ((if_pos c1).trans (if_neg z)).trans (if_neg c2), soonA (nI_ne1 (show pre.length < 2 ^ 31 by omega)) d (i :: pre) b hO' hl ((fb_cons hf).trans (if_neg c2))]
              refine Or.inr ⟨i :: pre, rfl, by simp, by omega, ?_⟩
              rcases h with ⟨rfl, rfl⟩ | ⟨p, rfl, p1, p2, rfl⟩
              · simp [upR]
              · have c3 : pre.length + 1 < p.length := of_decide_eq_true c1
                refine (if_neg (fun q => ?_)).trans (by simp)
                have := (nI_leI (by omega) (by omega)).mp q
                omega
          · rw [show sF e (fun p b => cS e d p b) pre i a = a from if_neg c1]
            rcases h with ⟨rfl, rfl⟩ | ⟨p, rfl, p1, p2, rfl⟩
            · exact absurd rfl c1
            · have c3 : ¬ pre.length + 1 < p.length := fun q => c1 (decide_eq_true q)
              refine Or.inr ⟨p, rfl, p1, p2, ?_⟩
              by_cases c2 : bo e i pre = 0
              · exact soonC hn d (i :: pre) _ (p.length - 1) hO' hl ((fb_cons hf).trans (if_pos c2)) (by simp only [List.length_cons]; omega)
              · rw [soonA (nI_ne1 (show pre.length < 2 ^ 31 by omega)) d (i :: pre) _ hO' hl ((fb_cons hf).trans (if_neg c2))]
                exact if_pos ((nI_leI (by omega) (by omega)).mpr (by omega))
    exact loop e.n 0 a b (by omega) h
