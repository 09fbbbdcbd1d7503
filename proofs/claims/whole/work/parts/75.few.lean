/-- the first that is found -/
def lpO {α : Type} (f : Nat → Option α) : Nat → Nat → Option α
  | 0, _ => none
  | c + 1, i => if (f i).isSome then f i else lpO f c (i + 1)
/-- the first order of so many more that boils at its end -/
def fS (e : Evg) : Nat → List Nat → Option (List Nat)
  | 0, [] => none
  | 0, g :: b => if bo e g b = 0 then none else some (g :: b)
  | k + 1, pre => lpO (fun g => if g ∈ pre then none else fS e k (g :: pre)) e.n 0
theorem fS_s (e : Evg) (k : Nat) (pre : List Nat) : fS e (k + 1) pre = lpO (fun g => if g ∈ pre then none else fS e k (g :: pre)) e.n 0 := by
  cases pre <;> rfl
theorem lpO_no {α : Type} {f : Nat → Option α} : ∀ (c i : Nat), lpO f c i = none → ∀ j, i ≤ j → j < i + c → f j = none := by
  intro c
  induction c with
  | zero => intro i _ j h1 h2; omega
  | succ c ih =>
    intro i h j h1 h2
    unfold lpO at h
    cases hf : f i with
    | some x =>
      rw [hf] at h
      rw [if_pos (show (some x).isSome = true from rfl)] at h
      cases h
    | none =>
      rw [hf] at h
      rw [if_neg (show ¬ (none : Option α).isSome = true by simp)] at h
      by_cases z : j = i
      · rw [z]; exact hf
      · exact ih (i + 1) h j (by omega) (by omega)
def enc : Option (List Nat) → Int32
  | none => -1
  | some p => dgI p
def dgN : List Nat → Nat
  | [] => 0
  | g :: b => dgN b * 10 + g + 1
theorem dgI_N : ∀ p, dgI p = nI (dgN p)
  | [] => rfl
  | g :: b => by
    show dgI b * 10 + nI g + 1 = nI (dgN b * 10 + g + 1)
    rw [dgI_N b, show (10 : Int32) = nI 10 from rfl, pk_mul, nI_add, nI_1]
theorem dgN_le : ∀ p : List Nat, (∀ g, g ∈ p → g < 5) → dgN p < 10 ^ p.length
  | [], _ => by decide
  | g :: b, h => by
    have h1 := dgN_le b (fun x hx => h x (List.mem_cons_of_mem _ hx))
    have h2 := h g List.mem_cons_self
    have h3 : 10 ^ (b.length + 1) = 10 ^ b.length * 10 := Nat.pow_succ _ _
    show dgN b * 10 + g + 1 < 10 ^ (b.length + 1)
    omega
theorem dg_ne1 {p : List Nat} (h : ∀ g, g ∈ p → g < 5) (hl : p.length ≤ 5) : ¬ dgI p = -1 := by
  rw [dgI_N]
  have h1 := dgN_le p h
  have h2 : 10 ^ p.length ≤ 10 ^ 5 := Nat.pow_le_pow_right (by decide) hl
  exact nI_ne1 (by omega)
theorem fS_ok {e : Evg} : ∀ (k : Nat) (pre p : List Nat), OkP e pre → fS e k pre = some p → OkP e p ∧ p.length = pre.length + k := by
  intro k
  induction k with
  | zero =>
    intro pre p hO h
    cases pre with
    | nil => cases h
    | cons g b =>
      have h' : (if bo e g b = 0 then none else some (g :: b)) = some p := h
      by_cases c : bo e g b = 0
      · rw [if_pos c] at h'
        cases h'
      · rw [if_neg c] at h'
        rw [← Option.some.inj h']
        exact ⟨hO, rfl⟩
  | succ k ih =>
    intro pre p hO h
    rw [fS_s] at h
    have loop : ∀ (c i : Nat), i + c = e.n → lpO (fun g => if g ∈ pre then none else fS e k (g :: pre)) c i = some p → OkP e p ∧ p.length = pre.length + (k + 1) := by
      intro c
      induction c with
      | zero => intro i _ h; cases h
      | succ c ihc =>
        intro i hi h
        unfold lpO at h
        by_cases z : i ∈ pre
        · rw [if_pos z, if_neg (show ¬ (none : Option (List Nat)).isSome = true by simp)] at h
          exact ihc (i + 1) (by omega) h
        · rw [if_neg z] at h
          by_cases y : (fS e k (i :: pre)).isSome = true
          · rw [if_pos y] at h
            have := ih (i :: pre) p (hO.cons (by omega) z) h
            simp only [List.length_cons] at this
            exact ⟨this.1, by omega⟩
          · rw [if_neg y] at h
            exact ihc (i + 1) (by omega) h
    exact loop e.n 0 (by omega) h
theorem fSM {e : Evg} (ho : EnvOk e) {z : Nat} (hz : z ≤ e.n) : ∀ (k R : Nat) (pre : List Nat) (μ : St) (M : Nat), HoldM e pre μ → SetM e.n 9 pre M → pre.length + k = z → 0 < z → k ≤ R → ∃ μ', X10_seeksFew (X10_seeksFew_K R) (nI M) (nI pre.length) (nI z) (dgI pre) μ = some (enc (fS e k pre), μ') ∧ HoldM e pre μ' ∧ EM μ μ' := by
  have hn := ho.1
  intro k
  induction k with
  | zero =>
    intro R pre μ M h hM hk h0 hR
    cases pre with
    | nil => simp at hk; omega
    | cons g b =>
      have hl := h.2.1.len
      simp only [List.length_cons] at hl hk
      unfold X10_seeksFew
      rw [show (g :: b).length = b.length + 1 from rfl, if_pos (show nI (b.length + 1) = nI z by rw [show b.length + 1 = z by omega]), nI_pred, if_neg (show ¬ ob (nI b.length) 5 by rw [ob_iff (by decide), tiI (by omega)]; omega), tnI (by omega), h.2.2.2.2.1]
      refine ⟨μ, ?_, h, EM.refl μ⟩
      show _ = some (enc (if bo e g b = 0 then none else some (g :: b)), μ)
      by_cases c : bo e g b = 0
      · rw [if_pos c, if_pos c]
        rfl
      · rw [if_neg c, if_neg c]
        rfl
  | succ k ih =>
    intro R pre μ M h hM hk h0 hR
    obtain ⟨R', rfl⟩ : ∃ R', R = R' + 1 := ⟨R - 1, by omega⟩
    have hl := h.2.1.len
    have loop : ∀ (c i F : Nat) (μ : St), i + c = e.n → c < F → HoldM e pre μ → ∃ μ', X10_seeksFew_b26 (X10_seeksFew_K (R' + 1)) F (nI M) (nI pre.length) (nI z) (dgI pre) (nI i) μ = some (enc (lpO (fun g => if g ∈ pre then none else fS e k (g :: pre)) c i), μ') ∧ HoldM e pre μ' ∧ EM μ μ' := by
      intro c
      induction c with
      | zero =>
        intro i F μ hi hF h
        obtain ⟨F', rfl⟩ : ∃ F', F = F' + 1 := ⟨F - 1, by omega⟩
        rw [X10_seeksFew_b26, h.1.1, if_pos (show nI e.n ≤ nI i by rw [nI_leI (by omega) (by omega)]; omega)]
        exact ⟨μ, rfl, h, EM.refl μ⟩
      | succ c ihc =>
        intro i F μ hi hF h
        obtain ⟨F', rfl⟩ : ∃ F', F = F' + 1 := ⟨F - 1, by omega⟩
        rw [X10_seeksFew_b26, h.1.1, if_neg (show ¬ nI e.n ≤ nI i by rw [nI_leI (by omega) (by omega)]; omega), nI_1, nI_1]
        unfold lpO
        by_cases c1 : i ∈ pre
        · rw [if_neg (fun q => by have := (hM.bit (show i < 5 by omega)).mp q; exact this.2.2 c1), if_pos c1, if_neg (show ¬ (none : Option (List Nat)).isSome = true by simp)]
          exact ihc (i + 1) F' μ (by omega) (by omega) h
        · rw [if_pos ((hM.bit (show i < 5 by omega)).mpr ⟨by omega, by omega, c1⟩), if_neg c1]
          obtain ⟨μ1, a1, a2, a3⟩ := comes_eq ho h (g := i) (by omega) c1
          obtain ⟨M', m1, m2⟩ := hM.take (show i < 5 by omega)
          obtain ⟨μ2, b1', b2, b3⟩ := ih R' (i :: pre) μ1 M' a2 m2 (by simp only [List.length_cons]; omega) h0 (by omega)
          rw [a1, Option.bind_some, m1, show (10 : Int32) * dgI pre + nI i + 1 = dgI (i :: pre) by rw [Int32.mul_comm]; rfl, show X10_seeksFew_K (R' + 1) (nI M') (nI (pre.length + 1)) (nI z) (dgI (i :: pre)) μ1 = some (enc (fS e k (i :: pre)), μ2) from b1', Option.bind_some]
          cases hf : fS e k (i :: pre) with
          | none =>
            rw [show enc none = -1 from rfl, if_pos rfl, if_neg (show ¬ (none : Option (List Nat)).isSome = true by simp)]
            obtain ⟨μ3, d1, d2, d3⟩ := ihc (i + 1) F' μ2 (by omega) (by omega) b2.tail
            exact ⟨μ3, d1, d2, (a3.em.trans b3).trans d3⟩
          | some p =>
            obtain ⟨o1, o2⟩ := fS_ok k _ _ a2.2.1 hf
            have hne := dg_ne1 (p := p) (fun g hg => by have := o1.2 g hg; omega) (by have := o1.len; omega)
            rw [show enc (some p) = dgI p from rfl, if_neg hne, if_pos (show (some p).isSome = true from rfl)]
            exact ⟨μ2, rfl, b2.tail, a3.em.trans b3⟩
    unfold X10_seeksFew
    rw [if_neg (show ¬ nI pre.length = nI z by rw [nI_eq (by omega) (by omega)]; omega), fS_s]
    exact loop e.n 0 FU μ (by omega) (by rw [FU_eq]; omega) h
/-- of the class's search: nothing sooner, nothing found -/
theorem cS1 {e : Evg} {pre : List Nat} (h : fS e 1 pre = none) {i : Nat} (hi : i < e.n) (hp : i ∉ pre) : bo e i pre = 0 := by
  rw [fS_s] at h
  have h1 := lpO_no e.n 0 h i (Nat.zero_le _) (by omega)
  have h2 : (if i ∈ pre then none else fS e 0 (i :: pre)) = none := h1
  rw [if_neg hp] at h2
  have h3 : (if bo e i pre = 0 then none else some (i :: pre)) = none := h2
  refine Decidable.byContradiction fun q => ?_
  rw [if_neg q] at h3
  cases h3
theorem fS_tail {e : Evg} {pre : List Nat} {j : Nat} (h : fS e (j + 1) pre = none) {i : Nat} (hi : i < e.n) (hp : i ∉ pre) : fS e j (i :: pre) = none := by
  rw [fS_s] at h
  have h1 := lpO_no e.n 0 h i (Nat.zero_le _) (by omega)
  have h2 : (if i ∈ pre then none else fS e j (i :: pre)) = none := h1
  rw [if_neg hp] at h2
  exact h2
theorem cF1 {e : Evg} : ∀ (d : Nat) (pre : List Nat) (a : Option (List Nat)), (∀ j, 1 ≤ j → j ≤ d → fS e j pre = none ∨ soon a (pre.length + j - 1) = false) → cS e d pre a = a ∧ (∀ d', d = d' + 1 → ∀ i, i < e.n → sF e (fun p b => cS e d' p b) pre i a = a) := by
  intro d
  induction d with
  | zero => intro pre a _; exact ⟨rfl, fun d' h => by omega⟩
  | succ d ih =>
    intro pre a h
    have step : ∀ i, i < e.n → sF e (fun p b => cS e d p b) pre i a = a := fun i hi => by
      unfold sF
      by_cases c1 : soon a pre.length = true
      · rw [if_pos c1]
        by_cases c2 : i ∈ pre
        · rw [if_pos c2]
        · have h1 : fS e 1 pre = none := (h 1 (Nat.le_refl _) (by omega)).elim id (fun q => by
            rw [show pre.length + 1 - 1 = pre.length by omega, c1] at q
            cases q)
          rw [if_neg c2, if_pos (cS1 h1 hi c2)]
          refine (ih (i :: pre) a (fun j j1 j2 => ?_)).1
          rcases h (j + 1) (by omega) (by omega) with q | q
          · exact Or.inl (fS_tail q hi c2)
          · refine Or.inr ?_
            rw [show (i :: pre).length + j - 1 = pre.length + (j + 1) - 1 by simp only [List.length_cons]; omega]
            exact q
      · rw [if_neg c1]
    refine ⟨?_, fun d' hd' i hi => ?_⟩
    · unfold cS
      exact lpF_id e.n 0 (fun j _ hj => step j (by omega))
    · have : d = d' := by omega
      subst this
      exact step i hi
theorem cF3 {e : Evg} : ∀ (d : Nat) (pre : List Nat) (a : Option (List Nat)) (K : Nat), (∀ j, 1 ≤ j → j ≤ K → fS e j pre = none) → cS e d pre a = a ∨ ∃ p, cS e d pre a = some p ∧ pre.length + K < p.length := by
  intro d
  induction d with
  | zero => intro pre a K _; exact Or.inl rfl
  | succ d ih =>
    intro pre a K h
    have step : ∀ i, i < e.n → ∀ b, sF e (fun p b => cS e d p b) pre i b = b ∨ ∃ p, sF e (fun p b => cS e d p b) pre i b = some p ∧ pre.length + K < p.length := fun i hi b => by
      unfold sF
      by_cases c1 : soon b pre.length = true
      · rw [if_pos c1]
        by_cases c2 : i ∈ pre
        · rw [if_pos c2]
          exact Or.inl rfl
        · rw [if_neg c2]
          by_cases c3 : bo e i pre = 0
          · rw [if_pos c3]
            rcases ih (i :: pre) b (K - 1) (fun j j1 j2 => fS_tail (h (j + 1) (by omega) (by omega)) hi c2) with q | ⟨p, q1, q2⟩
            · exact Or.inl q
            · refine Or.inr ⟨p, q1, ?_⟩
              simp only [List.length_cons] at q2
              omega
          · rw [if_neg c3]
            by_cases k0 : K = 0
            · refine Or.inr ⟨_, rfl, ?_⟩
              simp only [List.length_cons]
              omega
            · exact absurd (cS1 (h 1 (Nat.le_refl _) (by omega)) hi c2) c3
      · rw [if_neg c1]
        exact Or.inl rfl
    have loop : ∀ (c i : Nat) (b : Option (List Nat)), i + c = e.n → lpF (sF e (fun p b => cS e d p b) pre) c i b = b ∨ ∃ p, lpF (sF e (fun p b => cS e d p b) pre) c i b = some p ∧ pre.length + K < p.length := by
      intro c
      induction c with
      | zero => intro i b _; exact Or.inl rfl
      | succ c ihc =>
        intro i b hi
        unfold lpF
        rcases ihc (i + 1) (sF e (fun p b => cS e d p b) pre i b) (by omega) with q | q
        · rw [q]
          exact step i (by omega) b
        · exact Or.inr q
    unfold cS
    exact loop e.n 0 a (by omega)
theorem soon_le {a : Option (List Nat)} {m m' : Nat} (h : soon a m = true) (hm : m' ≤ m) : soon a m' = true := by
  cases a with
  | none => rfl
  | some p =>
    have := of_decide_eq_true (show decide (m + 1 < p.length) = true from h)
    exact decide_eq_true (show m' + 1 < p.length by omega)
theorem cF2 {e : Evg} : ∀ (d : Nat) (pre : List Nat) (a : Option (List Nat)) (k : Nat) (p : List Nat), OkP e pre → k < d → (∀ j, 1 ≤ j → j ≤ k → fS e j pre = none) → fS e (k + 1) pre = some p → soon a (pre.length + k) = true → cS e d pre a = some p := by
  intro d
  induction d with
  | zero => intro pre a k p _ hk; omega
  | succ d ih =>
    intro pre a k p hO hk hno hsome hs
    obtain ⟨op1, op2⟩ := fS_ok _ _ _ hO hsome
    rw [fS_s] at hsome
    have rest : ∀ (c i : Nat), i + c = e.n → lpF (sF e (fun p b => cS e d p b) pre) c i (some p) = some p := fun c i hi => lpF_id c i (fun j j1 j2 => by
      refine (cF1 (d + 1) pre (some p) (fun j' h1 h2 => ?_)).2 d rfl j (by omega)
      by_cases q : j' ≤ k
      · exact Or.inl (hno j' h1 q)
      · exact Or.inr (decide_eq_false (by omega)))
    have loop : ∀ (c i : Nat) (b : Option (List Nat)), i + c = e.n → lpO (fun g => if g ∈ pre then none else fS e k (g :: pre)) c i = some p → soon b (pre.length + k) = true → lpF (sF e (fun p b => cS e d p b) pre) c i b = some p := by
      intro c
      induction c with
      | zero => intro i b _ h; cases h
      | succ c ihc =>
        intro i b hi h hb
        unfold lpO at h
        unfold lpF
        have hb0 := soon_le hb (Nat.le_add_right pre.length k)
        by_cases z : i ∈ pre
        · rw [if_pos z, if_neg (show ¬ (none : Option (List Nat)).isSome = true by simp)] at h
          rw [show sF e (fun p b => cS e d p b) pre i b = b from (if_pos hb0).trans (if_pos z)]
          exact ihc (i + 1) b (by omega) h hb
        · rw [if_neg z] at h
          have hO' := hO.cons (show i < e.n by omega) z
          have noT : ∀ j, 1 ≤ j → j < k → fS e j (i :: pre) = none := fun j j1 j2 => fS_tail (hno (j + 1) (by omega) (by omega)) (by omega) z
          cases hf : fS e k (i :: pre) with
          | some p' =>
            rw [hf, if_pos (show (some p').isSome = true from rfl)] at h
            have hp : p' = p := Option.some.inj h
            subst hp
            have got : sF e (fun p b => cS e d p b) pre i b = some p' := by
              cases k with
              | zero =>
                have h3 : (if bo e i pre = 0 then none else some (i :: pre)) = some p' := hf
                by_cases c3 : bo e i pre = 0
                · rw [if_pos c3] at h3
                  cases h3
                · rw [if_neg c3] at h3
                  rw [← Option.some.inj h3]
                  exact ((if_pos hb0).trans (if_neg z)).trans (if_neg c3)
              | succ k' =>
                have c3 := cS1 (hno 1 (Nat.le_refl _) (by omega)) (show i < e.n by omega) z
                rw [show sF e (fun p b => cS e d p b) pre i b = cS e d (i :: pre) b from ((if_pos hb0).trans (if_neg z)).trans (if_pos c3)]
                refine ih (i :: pre) b k' p' hO' (by omega) (fun j j1 j2 => noT j j1 (by omega)) hf ?_
                rw [show (i :: pre).length + k' = pre.length + (k' + 1) by simp only [List.length_cons]; omega]
                exact hb
            rw [got]
            exact rest c (i + 1) (by omega)
          | none =>
            rw [hf, if_neg (show ¬ (none : Option (List Nat)).isSome = true by simp)] at h
            refine ihc (i + 1) _ (by omega) h ?_
            have c3 : bo e i pre = 0 := by
              cases k with
              | zero =>
                have h3 : (if bo e i pre = 0 then none else some (i :: pre)) = none := hf
                refine Decidable.byContradiction fun q => ?_
                rw [if_neg q] at h3
                cases h3
              | succ k' => exact cS1 (hno 1 (Nat.le_refl _) (by omega)) (by omega) z
            rw [show sF e (fun p b => cS e d p b) pre i b = cS e d (i :: pre) b from ((if_pos hb0).trans (if_neg z)).trans (if_pos c3)]
            rcases cF3 d (i :: pre) b k (fun j j1 j2 => by
              by_cases q : j = k
              · rw [q]
                exact hf
              · exact noT j j1 (by omega)) with q | ⟨p2, q1, q2⟩
            · rw [q]
              exact hb
            · rw [q1]
              simp only [List.length_cons] at q2
              exact decide_eq_true (by omega)
    unfold cS
    exact loop e.n 0 a (by omega) hsome hs
theorem few68 {e : Evg} (ho : EnvOk e) (l1 : Int32) : ∀ (c i F : Nat) (μ : St), i + c = e.n → c + 1 < F → HoldM e [] μ → (∀ j, 1 ≤ j → j ≤ i → fS e j [] = none) → ∃ μ', X10_soonest_b68 F l1 (nI (i + 1)) μ = some (match cS e e.n [] none with | none => -1 | some p => if l1 = 2 then dgI p else nI p.length, μ') ∧ EM μ μ' := by
  have hn := ho.1
  have hO0 : OkP e [] := ⟨List.nodup_nil, fun g hg => absurd hg List.not_mem_nil⟩
  intro c
  induction c with
  | zero =>
    intro i F μ hi hF h hno
    obtain ⟨F', rfl⟩ : ∃ F', F = F' + 1 := ⟨F - 1, by omega⟩
    rw [X10_soonest_b68, h.1.1, if_pos (show nI e.n < nI (i + 1) by rw [nI_ltI (by omega) (by omega)]; omega), (cF1 e.n [] none (fun j j1 j2 => Or.inl (hno j j1 (by omega)))).1]
    exact ⟨μ, rfl, EM.refl μ⟩
  | succ c ih =>
    intro i F μ hi hF h hno
    obtain ⟨F', rfl⟩ : ∃ F', F = F' + 1 := ⟨F - 1, by omega⟩
    obtain ⟨μ1, a1, a2, a3⟩ := fSM ho (z := i + 1) (by omega) (i + 1) FR [] μ _ h (SetM.all (ab := 9) hn (by decide)) (by simp) (by omega) (Nat.le_trans (show i + 1 ≤ 5 by omega) (by decide))
    rw [X10_soonest_b68, h.1.1, if_neg (show ¬ nI e.n < nI (i + 1) by rw [nI_ltI (by omega) (by omega)]; omega), everybody_eq hn h.1.1, Option.bind_some, show X10_seeksFew (X10_seeksFew_K FR) (nI (2 ^ e.n - 1)) 0 (nI (i + 1)) 0 μ = some (enc (fS e (i + 1) []), μ1) from a1, Option.bind_some]
    cases hf : fS e (i + 1) [] with
    | none =>
      rw [show enc none = -1 from rfl, if_pos rfl, nI_1]
      obtain ⟨μ', b1', b2⟩ := ih (i + 1) F' μ1 (by omega) (by omega) a2 (fun j j1 j2 => by
        by_cases q : j = i + 1
        · rw [q]
          exact hf
        · exact hno j j1 (by omega))
      exact ⟨μ', b1', a3.trans b2⟩
    | some p =>
      obtain ⟨o1, o2⟩ := fS_ok _ _ _ hO0 hf
      have hne := dg_ne1 (p := p) (fun g hg => by have := o1.2 g hg; omega) (by have := o1.len; omega)
      have hc := cF2 e.n [] none i p hO0 (by omega) hno hf rfl
      rw [hc, show enc (some p) = dgI p from rfl, if_neg hne]
      have o3 : p.length = i + 1 := by simpa using o2
      refine ⟨μ1, ?_, a3⟩
      dsimp only
      rw [o3]
      by_cases c2 : l1 = 2
      · rw [if_pos c2, if_pos c2]
      · rw [if_neg c2, if_neg c2]
theorem sim_soonest : Sim_soonest Rel := by
  intro a σ μ ⟨n, t, k, ev, hR⟩
  have hRel : Rel σ μ := ⟨n, t, k, ev, hR⟩
  obtain ⟨r, -, -, ho, hEX, hEM⟩ := env_of hR
  have hn : n ≤ 5 := ho.1
  have hO0 : OkP (envOf n r ev σ) [] := ⟨List.nodup_nil, fun g hg => absurd hg List.not_mem_nil⟩
  unfold X9_soonest X10_soonest
  rw [in_i, Option.bind_some, show (0 : Int64).toInt = 0 by decide, show (3 : Int64).toInt = 3 by decide]
  have le3 : a ≤ 3 ↔ a.toInt ≤ 3 := by rw [Int32.le_iff_toInt_le, show (3 : Int32).toInt = 3 by decide]
  have ge2 : 2 ≤ a ↔ 2 ≤ a.toInt := by rw [Int32.le_iff_toInt_le, show (2 : Int32).toInt = 2 by decide]
  by_cases c : 0 ≤ a.toInt ∧ a.toInt ≤ 3
  · have xs : EX σ (up (up (up σ 34 3 (-1)) 34 4 (-1)) 34 5 (-1)) := ((ex_up (by decide) (by decide)).trans (ex_up (by decide) (by decide))).trans (ex_up (by decide) (by decide))
    obtain ⟨σ1, a1, a2, a3⟩ := begin_eq ho.2.1 (hEX.keep ho.2.1 xs)
    have S0 : SXr (envOf n r ev σ) none σ1 := ⟨by rw [a3 _ _ (by decide) (by decide), up_pl (by decide), up_pl (by decide), up_eq], by rw [a3 _ _ (by decide) (by decide), up_pl (by decide), up_eq], by rw [a3 _ _ (by decide) (by decide), up_eq]⟩
    obtain ⟨σ2, b1', b2, b3, b4⟩ := cSX ho n FR [] σ1 none a2 (show ([] : List Nat).length + n = n by simp) (Nat.le_trans hn (by decide)) rfl S0
    have eX : X0_seekSoonest σ = some σ2 := by
      unfold X0_seekSoonest
      rw [a1, Option.bind_some, show X0_seekSoonestBehind (X0_seekSoonestBehind_K FR) 0 σ1 = some σ2 from b1', Option.bind_some]
    have xx := (xs.trans a3.ex).trans b4
    obtain ⟨μ1, p1, p2, p3⟩ := begins_eq hEM
    rw [if_neg (show ¬ a < 0 by rw [lt0I]; omega), if_pos (le3.mpr c.2), if_pos c, if_neg ne10, eX, Option.bind_some, p1, Option.bind_some]
    by_cases c2 : 2 ≤ a.toInt
    · obtain ⟨μ2, q1, q2⟩ := few68 ho a n 0 FU μ1 (show 0 + n = n by omega) (by rw [FU_eq]; omega) p2 (fun j j1 j2 => by omega)
      rw [if_pos (ge2.mpr c2), show X10_soonest_b68 FU a 1 μ1 = _ from q1, if_neg (show ¬ a = 0 from fun q => by rw [q, t0] at c2; omega), if_neg (show ¬ a = 1 from fun q => by rw [q, show (1 : Int32).toInt = 1 by decide] at c2; omega)]
      have R' : Rel σ2 μ2 := ⟨n, t, k, ev, hR.frame xx (p3.em.trans q2)⟩
      rw [show (envOf n r ev σ).n = n from rfl]
      revert b3
      cases cS (envOf n r ev σ) n [] none with
      | none =>
        intro b3
        rw [b3.2.1, b3.2.2, if_pos rfl]
        by_cases a2' : a = 2
        · rw [if_pos a2']
          exact ⟨_, σ2, μ2, rfl, rfl, R'⟩
        · rw [if_neg a2']
          exact ⟨_, σ2, μ2, rfl, rfl, R'⟩
      | some p =>
        intro b3
        obtain ⟨s1, s2, s3, s4⟩ := b3
        rw [s3, s4, if_neg (nI_ne1 (by omega)), nI_1, show p.length - 1 + 1 = p.length by omega]
        by_cases a2' : a = 2
        · rw [if_pos a2']
          refine ⟨_, σ2, μ2, rfl, ?_, R'⟩
          dsimp only
          rw [if_pos a2']
        · rw [if_neg a2']
          refine ⟨_, σ2, μ2, rfl, ?_, R'⟩
          dsimp only
          rw [if_neg a2']
    · have y1 : EM μ1 (up μ1 0 31 0) := em_up0 (by decide) (by decide)
      have h1 := p2.kp y1 (fun x y p q => up_lo (by omega))
      obtain ⟨μ2, q1, q2, q3, q4⟩ := rSM ho n FR [] (up μ1 0 31 0) _ none h1 (SetM.all (n := n) (ab := 9) hn (by decide)) (show ([] : List Nat).length + n = n by simp) (Nat.le_trans hn (by decide)) up_eq
      rw [if_neg (fun q => c2 (ge2.mp q)), everybody_eq hn (show (up μ1 0 31 0).1 0 11 = nI n from h1.1.1), Option.bind_some, show X10_seeksSoonest (X10_seeksSoonest_K FR) (nI (2 ^ n - 1)) 0 0 (up μ1 0 31 0) = some μ2 from q1, Option.bind_some]
      have R' : Rel σ2 μ2 := ⟨n, t, k, ev, hR.frame xx ((p3.em.trans y1).trans q4)⟩
      have rr := soonB (e := envOf n r ev σ) hn n [] none none hO0 (show ([] : List Nat).length + n = n by simp) rfl (Or.inl ⟨rfl, rfl⟩)
      have a01 : a = 0 ∨ a = 1 := by
        rcases (show a.toInt = 0 ∨ a.toInt = 1 by omega) with h | h
        · exact Or.inl (Int32.toInt_inj.mp (h.trans t0.symm))
        · exact Or.inr (Int32.toInt_inj.mp (h.trans (by decide)))
      rcases rr with ⟨r1, r2⟩ | ⟨p, r1, r2, r3, r4⟩
      · rw [r1] at b3
        rw [r2] at q3
        rw [show μ2.1 0 31 = 0 from q3, if_pos rfl]
        rcases a01 with rfl | rfl
        · rw [if_pos rfl, b3.1]
          exact ⟨_, σ2, μ2, rfl, rfl, R'⟩
        · rw [if_neg ne10, if_pos rfl, b3.2.1]
          exact ⟨_, σ2, μ2, rfl, rfl, R'⟩
      · rw [r1] at b3
        rw [r4] at q3
        obtain ⟨s1, s2, s3, s4⟩ := b3
        obtain ⟨z1, z2, z3⟩ := q3
        rw [z1, if_neg ne10]
        rcases a01 with rfl | rfl
        · rw [if_pos rfl, if_pos rfl, s2, z2]
          exact ⟨_, σ2, μ2, rfl, rfl, R'⟩
        · rw [if_neg ne10, if_neg ne10, if_pos rfl, s3, z3]
          exact ⟨_, σ2, μ2, rfl, rfl, R'⟩
  · rw [if_neg c, if_pos rfl]
    refine ⟨-2, σ, μ, ?_, rfl, hRel⟩
    by_cases c1 : a < 0
    · rw [if_pos c1]
    · rw [if_neg c1, if_neg (fun q => c ⟨by rw [lt0I] at c1; omega, le3.mp q⟩)]
