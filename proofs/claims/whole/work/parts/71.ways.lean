/-- who came at a place -/
def plc : List Nat → Nat → Nat
  | [], _ => 9
  | g :: b, p => if p = b.length then g else plc b p
theorem plc_mem : ∀ (w : List Nat) (p : Nat), p < w.length → plc w p ∈ w
  | [], p, h => by simp at h
  | g :: b, p, h => by
    unfold plc
    by_cases c : p = b.length
    · rw [if_pos c]
      exact List.mem_cons_self
    · rw [if_neg c]
      simp only [List.length_cons] at h
      exact List.mem_cons_of_mem _ (plc_mem b p (by omega))
theorem plc_ex : ∀ (w : List Nat) (g : Nat), g ∈ w → ∃ p, p < w.length ∧ plc w p = g
  | [], g, h => absurd h List.not_mem_nil
  | x :: b, g, h => by
    rcases List.mem_cons.mp h with rfl | h
    · exact ⟨b.length, by simp, if_pos rfl⟩
    · obtain ⟨p, p1, p2⟩ := plc_ex b g h
      exact ⟨p, by simp only [List.length_cons]; omega, (if_neg (by omega)).trans p2⟩
theorem plc_inj : ∀ (w : List Nat), w.Nodup → ∀ p q, p < w.length → q < w.length → plc w p = plc w q → p = q
  | [], _, p, q, h, _, _ => by simp at h
  | x :: b, hd, p, q, hp, hq, h => by
    simp only [List.length_cons] at hp hq
    obtain ⟨h1, h2⟩ := List.nodup_cons.mp hd
    unfold plc at h
    by_cases c : p = b.length
    · by_cases c2 : q = b.length
      · omega
      · rw [if_pos c, if_neg c2] at h
        exact absurd (h ▸ plc_mem b q (by omega)) h1
    · by_cases c2 : q = b.length
      · rw [if_neg c, if_pos c2] at h
        exact absurd (h ▸ plc_mem b p (by omega)) h1
      · rw [if_neg c, if_neg c2] at h
        exact plc_inj b h2 p q (by omega) (by omega) h
theorem cellsX_plc {e : Evg} {σ : St} : ∀ {w : List Nat}, CellsX e σ w → ∀ p, p < w.length → σ.1 29 p = nI (plc w p)
  | [], _, p, h => by simp at h
  | g :: b, hc, p, h => by
    simp only [List.length_cons] at h
    show σ.1 29 p = nI (if p = b.length then g else plc b p)
    by_cases c : p = b.length
    · rw [if_pos c, c]
      exact hc.1
    · rw [if_neg c]
      exact cellsX_plc hc.2.2.2.2.2 p (by omega)
theorem cellsM_plc {e : Evg} {μ : St} : ∀ {w : List Nat}, CellsM e μ w → ∀ p, p < w.length → μ.1 7 p = nI (plc w p)
  | [], _, p, h => by simp at h
  | g :: b, hc, p, h => by
    simp only [List.length_cons] at h
    show μ.1 7 p = nI (if p = b.length then g else plc b p)
    by_cases c : p = b.length
    · rw [if_pos c, c]
      exact hc.1
    · rw [if_neg c]
      exact cellsM_plc hc.2.2.2.2 p (by omega)
/-- the orders by which it would be as told, behind those found already -/
def gS (e : Evg) (x : Nat → Int32) : Nat → List Nat → List (List Nat) → List (List Nat)
  | 0, pre, a => a ++ [pre]
  | d + 1, pre, a => lpF (fun g a => if g ∈ pre then a else if wmt e (g :: pre) = x pre.length then gS e x d (g :: pre) a else a) e.n 0 a
theorem gS_len {e : Evg} {x : Nat → Int32} (hn : e.n ≤ 5) : ∀ (d : Nat) (pre : List Nat) (a : List (List Nat)), (gS e x d pre a).length ≤ a.length + 5 ^ d := by
  intro d
  induction d with
  | zero =>
    intro pre a
    unfold gS
    rw [List.length_append]
    exact Nat.le_refl _
  | succ d ih =>
    intro pre a
    have loop : ∀ (c i : Nat) (a : List (List Nat)), (lpF (fun g a => if g ∈ pre then a else if wmt e (g :: pre) = x pre.length then gS e x d (g :: pre) a else a) c i a).length ≤ a.length + c * 5 ^ d := by
      intro c
      induction c with
      | zero => intro i a; unfold lpF; omega
      | succ c ihc =>
        intro i a
        unfold lpF
        refine Nat.le_trans (ihc _ _) ?_
        have h5 : (c + 1) * 5 ^ d = c * 5 ^ d + 5 ^ d := Nat.succ_mul _ _
        have hp : 0 < 5 ^ d := Nat.pow_pos (by decide)
        by_cases c1 : i ∈ pre
        · rw [if_pos c1]
          omega
        · rw [if_neg c1]
          by_cases c2 : wmt e (i :: pre) = x pre.length
          · rw [if_pos c2]
            have := ih (i :: pre) a
            omega
          · rw [if_neg c2]
            omega
    have h := loop e.n 0 a
    have h5 : 5 ^ (d + 1) = 5 * 5 ^ d := by rw [Nat.pow_succ, Nat.mul_comm]
    have h6 : e.n * 5 ^ d ≤ 5 * 5 ^ d := Nat.mul_le_mul_right _ hn
    unfold gS
    omega
def FullP (e : Evg) (w : List Nat) : Prop := OkP e w ∧ w.length = e.n
theorem gS_full {e : Evg} {x : Nat → Int32} : ∀ (d : Nat) (pre : List Nat) (a : List (List Nat)), OkP e pre → pre.length + d = e.n → (∀ w, w ∈ a → FullP e w) → ∀ w, w ∈ gS e x d pre a → FullP e w := by
  intro d
  induction d with
  | zero =>
    intro pre a hO hd ha w hw
    unfold gS at hw
    rcases List.mem_append.mp hw with h | h
    · exact ha w h
    · rw [List.mem_singleton.mp h]
      exact ⟨hO, by omega⟩
  | succ d ih =>
    intro pre a hO hd ha
    have loop : ∀ (c i : Nat) (a : List (List Nat)), i + c = e.n → (∀ w, w ∈ a → FullP e w) → ∀ w, w ∈ lpF (fun g a => if g ∈ pre then a else if wmt e (g :: pre) = x pre.length then gS e x d (g :: pre) a else a) c i a → FullP e w := by
      intro c
      induction c with
      | zero => intro i a _ ha; exact ha
      | succ c ihc =>
        intro i a hi ha
        unfold lpF
        refine ihc _ _ (by omega) ?_
        by_cases c1 : i ∈ pre
        · rw [if_pos c1]
          exact ha
        · rw [if_neg c1]
          by_cases c2 : wmt e (i :: pre) = x pre.length
          · rw [if_pos c2]
            exact ih (i :: pre) a ⟨List.nodup_cons.mpr ⟨c1, hO.1⟩, fun y hy => by
              rcases List.mem_cons.mp hy with rfl | hy
              · omega
              · exact hO.2 y hy⟩ (by simp only [List.length_cons]; omega) ha
          · rw [if_neg c2]
            exact ha
    exact loop e.n 0 a (by omega) ha
/-- what the class has noted of the orders found -/
def WX (e : Evg) : List (List Nat) → St → Prop
  | [], σ => σ.1 35 4 = 0 ∧ σ.1 35 5 = 0 ∧ σ.1 35 6 = 0
  | w1 :: rest, σ => FullP e w1 ∧ σ.1 35 4 = nI (rest.length + 1) ∧ σ.1 35 5 = dgI w1 ∧ (∀ p, p < e.n → σ.1 36 p = nI (plc w1 p)) ∧ ∃ M, M < 32 ∧ σ.1 35 6 = nI M ∧ ∀ g, g < 5 → (M.testBit g = true ↔ (g < e.n ∧ ∀ w, w ∈ rest → ∀ p, p < e.n → plc w p = g → plc w1 p = g))
theorem WX.keep {e : Evg} {σ σ' : St} : ∀ {a : List (List Nat)}, WX e a σ → (∀ x y, x = 35 ∨ x = 36 → σ'.1 x y = σ.1 x y) → WX e a σ'
  | [], h, k => by
    obtain ⟨h1, h2, h3⟩ := h
    exact ⟨(k _ _ (by decide)).trans h1, (k _ _ (by decide)).trans h2, (k _ _ (by decide)).trans h3⟩
  | w1 :: rest, h, k => by
    obtain ⟨h0, h1, h2, h3, M, m1, m2, m3⟩ := h
    exact ⟨h0, (k _ _ (by decide)).trans h1, (k _ _ (by decide)).trans h2, fun p hp => (k _ _ (by decide)).trans (h3 p hp), M, m1, (k _ _ (by decide)).trans m2, m3⟩
theorem guestAt_eq {n p : Nat} (hn : n ≤ 5) (hp : p < n) {σ : St} (h8 : σ.1 27 8 = nI n) : X1_guestAt (nI p) σ = some (σ.1 29 p) := by
  unfold X1_guestAt
  rw [if_neg (nI_pos (by omega)), h8, if_neg (show ¬ nI n ≤ nI p by rw [nI_leI (by omega) (by omega)]; omega), if_neg (show ¬ 5 ≤ nI p by rw [show (5 : Int32) = nI 5 from rfl, nI_leI (by omega) (by omega)]; omega), if_neg (show ¬ ob (nI p) 5 by rw [ob_iff (by decide), tiI (by omega)]; omega), tnI (by omega)]
theorem note46a {n : Nat} (hn : n ≤ 5) {w : List Nat} : ∀ (c i F : Nat) (σ : St), i + c = n → c < F → σ.1 1 5 = nI n → σ.1 27 8 = nI n → σ.1 35 4 = 1 → (∀ p, p < n → σ.1 29 p = nI (plc w p)) → (∀ p, p < i → σ.1 36 p = nI (plc w p)) → ∃ σ', X3_noteWay_b46 F (nI i) σ = some σ' ∧ (∀ p, p < n → σ'.1 36 p = nI (plc w p)) ∧ ∀ a b, a ≠ 36 → σ'.1 a b = σ.1 a b := by
  intro c
  induction c with
  | zero =>
    intro i F σ hi hF h5 h8 h4 h29 h36
    obtain ⟨F', rfl⟩ : ∃ F', F = F' + 1 := ⟨F - 1, by omega⟩
    rw [X3_noteWay_b46, h5, if_pos (show nI n ≤ nI i by rw [nI_leI (by omega) (by omega)]; omega)]
    exact ⟨σ, rfl, fun p hp => h36 p (by omega), fun _ _ _ => rfl⟩
  | succ c ih =>
    intro i F σ hi hF h5 h8 h4 h29 h36
    obtain ⟨F', rfl⟩ : ∃ F', F = F' + 1 := ⟨F - 1, by omega⟩
    rw [X3_noteWay_b46, h5, if_neg (show ¬ nI n ≤ nI i by rw [nI_leI (by omega) (by omega)]; omega), if_neg (show ¬ 5 ≤ nI i by rw [show (5 : Int32) = nI 5 from rfl, nI_leI (by omega) (by omega)]; omega), guestAt_eq hn (by omega) h8, Option.bind_some, h4, if_pos rfl, if_neg (show ¬ ob (nI i) 5 by rw [ob_iff (by decide), tiI (by omega)]; omega), tnI (by omega), nI_1, h29 i (by omega)]
    obtain ⟨σ', a1, a2, a3⟩ := ih (i + 1) F' (up σ 36 i (nI (plc w i))) (by omega) (by omega) ((up_lo (by decide)).trans h5) ((up_lo (by decide)).trans h8) ((up_lo (by decide)).trans h4) (fun p hp => (up_lo (by decide)).trans (h29 p hp)) (fun p hp => by
      by_cases c1 : p = i
      · subst c1
        rw [up_eq]
      · rw [up_pl c1]
        exact h36 p (by omega))
    exact ⟨σ', a1, a2, fun a b q => by rw [a3 a b q, up_lo q]⟩
theorem note46b {n : Nat} (hn : n ≤ 5) {w w1 : List Nat} (hw : ∀ p, p < n → plc w p < 5) (hw1 : ∀ p, p < n → plc w1 p < 5) : ∀ (c i F M : Nat) (σ : St), i + c = n → c < F → σ.1 1 5 = nI n → σ.1 27 8 = nI n → ¬ σ.1 35 4 = 1 → (∀ p, p < n → σ.1 29 p = nI (plc w p)) → (∀ p, p < n → σ.1 36 p = nI (plc w1 p)) → M < 32 → σ.1 35 6 = nI M → ∃ σ' M', X3_noteWay_b46 F (nI i) σ = some σ' ∧ M' < 32 ∧ σ'.1 35 6 = nI M' ∧ (∀ g, g < 5 → (M'.testBit g = true ↔ (M.testBit g = true ∧ ∀ p, i ≤ p → p < n → plc w p = g → plc w1 p = g))) ∧ ∀ a b, ¬ (a = 35 ∧ b = 6) → σ'.1 a b = σ.1 a b := by
  intro c
  induction c with
  | zero =>
    intro i F M σ hi hF h5 h8 h4 h29 h36 hM h6
    obtain ⟨F', rfl⟩ : ∃ F', F = F' + 1 := ⟨F - 1, by omega⟩
    rw [X3_noteWay_b46, h5, if_pos (show nI n ≤ nI i by rw [nI_leI (by omega) (by omega)]; omega)]
    exact ⟨σ, M, rfl, hM, h6, fun g hg => ⟨fun q => ⟨q, fun p p1 p2 _ => by omega⟩, fun q => q.1⟩, fun _ _ _ => rfl⟩
  | succ c ih =>
    intro i F M σ hi hF h5 h8 h4 h29 h36 hM h6
    obtain ⟨F', rfl⟩ : ∃ F', F = F' + 1 := ⟨F - 1, by omega⟩
    have b1' := hw i (by omega)
    have b2 := hw1 i (by omega)
    rw [X3_noteWay_b46, h5, if_neg (show ¬ nI n ≤ nI i by rw [nI_leI (by omega) (by omega)]; omega), if_neg (show ¬ 5 ≤ nI i by rw [show (5 : Int32) = nI 5 from rfl, nI_leI (by omega) (by omega)]; omega), guestAt_eq hn (by omega) h8, Option.bind_some, if_neg h4, if_neg (show ¬ ob (nI i) 5 by rw [ob_iff (by decide), tiI (by omega)]; omega), tnI (by omega), nI_1, h29 i (by omega), h36 i (by omega)]
    by_cases c1 : plc w1 i = plc w i
    · rw [if_pos (show nI (plc w1 i) = nI (plc w i) by rw [c1])]
      obtain ⟨σ', M', a1, a2, a3, a4, a5⟩ := ih (i + 1) F' M σ (by omega) (by omega) h5 h8 h4 h29 h36 hM h6
      refine ⟨σ', M', a1, a2, a3, fun g hg => ?_, a5⟩
      rw [a4 g hg]
      refine ⟨fun q => ⟨q.1, fun p p1 p2 p3 => ?_⟩, fun q => ⟨q.1, fun p p1 p2 p3 => q.2 p (by omega) p2 p3⟩⟩
      by_cases c2 : p = i
      · subst c2
        rw [c1]
        exact p3
      · exact q.2 p (by omega) p2 p3
    · rw [if_neg (show ¬ nI (plc w1 i) = nI (plc w i) from fun q => c1 ((nI_eq (by omega) (by omega)).mp q)), h6]
      obtain ⟨s1, s2, s3⟩ := bit_clr M hM (plc w i) b1'
      rw [s1]
      obtain ⟨σ', M', a1, a2, a3, a4, a5⟩ := ih (i + 1) F' _ (up σ 35 6 (nI (M &&& (31 ^^^ 2 ^ plc w i)))) (by omega) (by omega) ((up_lo (by decide)).trans h5) ((up_lo (by decide)).trans h8) (by rw [up_pl (by decide)]; exact h4) (fun p hp => (up_lo (by decide)).trans (h29 p hp)) (fun p hp => (up_lo (by decide)).trans (h36 p hp)) s2 up_eq
      refine ⟨σ', M', a1, a2, a3, fun g hg => ?_, fun a b q => by rw [a5 a b q, up_get, if_neg q]⟩
      rw [a4 g hg, s3 g hg]
      refine ⟨fun q => ?_, fun q => ?_⟩
      · obtain ⟨q1, q2⟩ := q
        have q3 : g ≠ plc w i ∧ M.testBit g = true := by simpa using q1
        refine ⟨q3.2, fun p p1 p2 p3 => ?_⟩
        by_cases c2 : p = i
        · subst c2
          exact absurd p3.symm q3.1
        · exact q2 p (by omega) p2 p3
      · obtain ⟨q1, q2⟩ := q
        have q3 : g ≠ plc w i := fun z => c1 ((q2 i (by omega) (by omega) z.symm).trans z)
        exact ⟨by simpa using ⟨q3, q1⟩, fun p p1 p2 p3 => q2 p (by omega) p2 p3⟩
theorem noteWay_eq {e : Evg} (ho : EnvOk e) {pre : List Nat} {a : List (List Nat)} {σ : St} (h : HoldX e pre σ) (hl : pre.length = e.n) (ha : a.length + 1 < 2 ^ 30) (hW : WX e a σ) : ∃ σ', X3_noteWay σ = some σ' ∧ HoldX e pre σ' ∧ WX e (a ++ [pre]) σ' ∧ EX σ σ' := by
  have hn := ho.1
  have h8 := h.2.2.1
  rw [hl] at h8
  have hfull : FullP e pre := ⟨h.2.1, hl⟩
  have h29 : ∀ p, p < e.n → σ.1 29 p = nI (plc pre p) := fun p hp => cellsX_plc h.2.2.2.2 p (by omega)
  have lt5 : ∀ w, FullP e w → ∀ p, p < e.n → plc w p < 5 := fun w hw p hp => by
    have := hw.1.2 _ (plc_mem w p (by rw [hw.2]; exact hp))
    omega
  have exN : ∀ σ' : St, (∀ x y, x ≠ 35 → x ≠ 36 → σ'.1 x y = σ.1 x y) → EX σ σ' := fun σ' k x y q => k x y (fun z => by subst z; exact Bool.noConfusion (show true = false from q)) (fun z => by subst z; exact Bool.noConfusion (show true = false from q))
  unfold X3_noteWay
  rw [up_eq]
  cases a with
  | nil =>
    obtain ⟨w1, w2, w3⟩ := hW
    rw [w1, show (0 : Int32) + 1 = 1 from rfl, if_pos rfl, digitsX (e := e) (pre := pre) (by omega) ((up_lo (by decide)).trans h.2.2.1) (h.2.2.2.2.keep (fun x y p q _ => up_lo (by omega))), Option.bind_some]
    have q5 : (up (up σ 35 4 1) 35 5 (dgI pre)).1 1 5 = nI e.n := by rw [up_lo (by decide), up_lo (by decide)]; exact h.1.1
    obtain ⟨t1, t2, t3⟩ := all_bits e.n hn
    rw [q5, t1]
    unfold X3_noteWay_b44
    have k0 : ∀ x y, x ≠ 35 → (up (up (up σ 35 4 1) 35 5 (dgI pre)) 35 6 (nI (2 ^ e.n - 1))).1 x y = σ.1 x y := fun x y q => by rw [up_lo q, up_lo q, up_lo q]
    obtain ⟨σ', a1, a2, a3⟩ := note46a hn (w := pre) e.n 0 FU (up (up (up σ 35 4 1) 35 5 (dgI pre)) 35 6 (nI (2 ^ e.n - 1))) (by omega) (by rw [FU_eq]; omega) ((k0 _ _ (by decide)).trans h.1.1) ((k0 _ _ (by decide)).trans h8) (by rw [up_pl (by decide), up_pl (by decide), up_eq]) (fun p hp => (k0 _ _ (by decide)).trans (h29 p hp)) (fun p hp => by omega)
    have kx : ∀ x y, x ≠ 35 → x ≠ 36 → σ'.1 x y = σ.1 x y := fun x y p q => (a3 x y q).trans (k0 x y p)
    refine ⟨σ', a1, h.kp ho.2.1 (exN σ' kx) (fun x y p q => kx x y (by omega) (by omega)), ⟨hfull, ?_, ?_, a2, _, t2, ?_, fun g hg => ?_⟩, exN σ' kx⟩
    · rw [a3 _ _ (by decide), up_pl (by decide), up_pl (by decide), up_eq]
      rfl
    · rw [a3 _ _ (by decide), up_pl (by decide), up_eq]
    · rw [a3 _ _ (by decide), up_eq]
    · rw [t3 g hg]
      exact ⟨fun q => ⟨of_decide_eq_true q, fun w hw => absurd hw List.not_mem_nil⟩, fun q => decide_eq_true q.1⟩
  | cons w1 rest =>
    obtain ⟨v0, v1, v2, v3, M, m1, m2, m3⟩ := hW
    simp only [List.length_cons] at ha
    have ne : ¬ nI (rest.length + 1) + 1 = 1 := fun q => by
      rw [nI_1] at q
      have := (nI_eq (by omega) (by decide)).mp (q.trans (show (1 : Int32) = nI 1 from rfl))
      omega
    rw [v1, if_neg ne]
    unfold X3_noteWay_b44
    have k0 : ∀ x y, ¬ (x = 35 ∧ y = 4) → (up σ 35 4 (nI (rest.length + 1) + 1)).1 x y = σ.1 x y := fun x y q => by rw [up_get, if_neg q]
    obtain ⟨σ', M', a1, a2, a3, a4, a5⟩ := note46b hn (w := pre) (w1 := w1) (lt5 pre hfull) (lt5 w1 v0) e.n 0 FU M (up σ 35 4 (nI (rest.length + 1) + 1)) (by omega) (by rw [FU_eq]; omega) ((k0 _ _ (by decide)).trans h.1.1) ((k0 _ _ (by decide)).trans h8) (by rw [up_eq]; exact ne) (fun p hp => (k0 _ _ (by omega)).trans (h29 p hp)) (fun p hp => (k0 _ _ (by omega)).trans (v3 p hp)) m1 ((k0 _ _ (by decide)).trans m2)
    have kx : ∀ x y, x ≠ 35 → σ'.1 x y = σ.1 x y := fun x y p => (a5 x y (by omega)).trans (k0 x y (by omega))
    refine ⟨σ', a1, h.kp ho.2.1 (exN σ' (fun x y p _ => kx x y p)) (fun x y p q => kx x y (by omega)), ⟨v0, ?_, ?_, fun p hp => (kx _ _ (by decide)).trans (v3 p hp), M', a2, a3, fun g hg => ?_⟩, exN σ' (fun x y p _ => kx x y p)⟩
    · rw [a5 _ _ (by decide), up_eq, nI_1]
      show nI (rest.length + 1 + 1) = nI ((rest ++ [pre]).length + 1)
      rw [List.length_append]
      rfl
    · rw [a5 _ _ (by decide), k0 _ _ (by decide)]
      exact v2
    · rw [a4 g hg, m3 g hg]
      refine ⟨fun q => ⟨q.1.1, fun w hw p hp hg' => ?_⟩, fun q => ⟨⟨q.1, fun w hw => q.2 w (List.mem_append.mpr (Or.inl hw))⟩, fun p _ hp => q.2 pre (List.mem_append.mpr (Or.inr (List.mem_singleton.mpr rfl))) p hp⟩⟩
      rcases List.mem_append.mp hw with h' | h'
      · exact q.1.2 w h' p hp hg'
      · rw [List.mem_singleton.mp h'] at hg'
        exact q.2 p (Nat.zero_le _) hp hg'
theorem gSX {e : Evg} (ho : EnvOk e) {s : Nat} (hs : s < 4) {x : Nat → Int32} : ∀ (d R : Nat) (pre : List Nat) (σ : St) (a : List (List Nat)), HoldX e pre σ → pre.length + d = e.n → d ≤ R → WX e a σ → a.length + 5 ^ d < 2 ^ 30 → σ.1 (38 + 2 * s) 2 = nI e.n → (∀ j, j < e.n → σ.1 (39 + 2 * s) j = x j) → ∃ σ', X3_seekWaysBehind (X3_seekWaysBehind_K R) (nI pre.length) (38 + 2 * s) σ = some σ' ∧ HoldX e pre σ' ∧ WX e (gS e x d pre a) σ' ∧ EX σ σ' := by
  have hn := ho.1
  intro d
  induction d with
  | zero =>
    intro R pre σ a h hd hR hW hB h2 hx
    have hl := h.2.1.len
    obtain ⟨σ', a1, a2, a3, a4⟩ := noteWay_eq ho h (by omega) (by simpa using hB) hW
    unfold X3_seekWaysBehind
    rw [h.1.1, if_neg (show ¬ nI pre.length < nI e.n by rw [nI_ltI (by omega) (by omega)]; omega), a1, Option.bind_some]
    exact ⟨σ', rfl, a2, a3, a4⟩
  | succ d ih =>
    intro R pre σ a h hd hR hW hB h2 hx
    obtain ⟨R', rfl⟩ : ∃ R', R = R' + 1 := ⟨R - 1, by omega⟩
    have hl := h.2.1.len
    have loop : ∀ (c i F : Nat) (σ : St) (a : List (List Nat)), i + c = e.n → c < F → HoldX e pre σ → WX e a σ → a.length + c * 5 ^ d < 2 ^ 30 → σ.1 (38 + 2 * s) 2 = nI e.n → (∀ j, j < e.n → σ.1 (39 + 2 * s) j = x j) → ∃ σ', X3_seekWaysBehind_b18 (X3_seekWaysBehind_K (R' + 1)) F (nI pre.length) (38 + 2 * s) (nI i) σ = some σ' ∧ HoldX e pre σ' ∧ WX e (lpF (fun g a => if g ∈ pre then a else if wmt e (g :: pre) = x pre.length then gS e x d (g :: pre) a else a) c i a) σ' ∧ EX σ σ' := by
      intro c
      induction c with
      | zero =>
        intro i F σ a hi hF h hW hB h2 hx
        obtain ⟨F', rfl⟩ : ∃ F', F = F' + 1 := ⟨F - 1, by omega⟩
        rw [X3_seekWaysBehind_b18, h.1.1, if_pos (show nI e.n ≤ nI i by rw [nI_leI (by omega) (by omega)]; omega)]
        exact ⟨σ, rfl, h, hW, EX.refl σ⟩
      | succ c ihc =>
        intro i F σ a hi hF h hW hB h2 hx
        obtain ⟨F', rfl⟩ : ∃ F', F = F' + 1 := ⟨F - 1, by omega⟩
        have h5 : (c + 1) * 5 ^ d = c * 5 ^ d + 5 ^ d := Nat.succ_mul _ _
        have hp : 0 < 5 ^ d := Nat.pow_pos (by decide)
        rw [X3_seekWaysBehind_b18, h.1.1, if_neg (show ¬ nI e.n ≤ nI i by rw [nI_leI (by omega) (by omega)]; omega), nI_1, nI_1]
        unfold lpF
        by_cases c2 : i ∈ pre
        · rw [comeUp_come ho h (by omega) c2, Option.bind_some, if_pos rfl, if_pos c2]
          exact ihc (i + 1) F' σ a (by omega) (by omega) h hW (by omega) h2 hx
        · rw [if_neg c2]
          obtain ⟨σ1, a1, a2, a3⟩ := comeUp_yes ho h (g := i) (by omega) c2
          have hl1 := a2.2.1.len
          simp only [List.length_cons] at hl1
          have f2 : ∀ σ' : St, EX σ σ' → σ'.1 (38 + 2 * s) 2 = nI e.n := fun σ' q => (q _ _ (sc_she hs 2).1).trans h2
          have fx : ∀ σ' : St, EX σ σ' → ∀ j, j < e.n → σ'.1 (39 + 2 * s) j = x j := fun σ' q j hj => (q _ _ (sc_she hs j).2).trans (hx j hj)
          rw [a1, Option.bind_some, if_neg ne10, now_eq (by simp only [List.length_cons]; omega) a2.1.2.1 a2.2.2.1 a2.2.2.2.2, Option.bind_some, if_pos (oS hs), item_eq hs (z := e.n) (by omega) (by omega) (f2 σ1 a3.ex), Option.bind_some, fx σ1 a3.ex _ (by omega)]
          unfold X3_seekWaysBehind_b66
          rw [nI_1]
          by_cases c3 : wmt e (i :: pre) = x pre.length
          · rw [if_pos c3, if_pos c3]
            obtain ⟨σ2, b1', b2, b3, b4⟩ := ih R' (i :: pre) σ1 a a2 (by simp only [List.length_cons]; omega) (by omega) (hW.keep (fun x y q => a3 x y (by omega) (by omega))) (by omega) (f2 σ1 a3.ex) (fx σ1 a3.ex)
            obtain ⟨σ3, c1', c2', c3'⟩ := goBack_eq hn b2 ho.2.1
            have x3 : EX σ σ3 := (a3.ex.trans b4).trans c3'.ex
            have hlen := gS_len (e := e) (x := x) hn d (i :: pre) a
            obtain ⟨σ4, d1, d2, d3, d4⟩ := ihc (i + 1) F' σ3 _ (by omega) (by omega) c2' (b3.keep (fun x y q => c3' x y (by omega) (by omega))) (by omega) (f2 σ3 x3) (fx σ3 x3)
            refine ⟨σ4, ?_, d2, d3, x3.trans d4⟩
            rw [show X3_seekWaysBehind_K (R' + 1) (nI (pre.length + 1)) (38 + 2 * s) σ1 = some σ2 from b1', Option.bind_some, c1', Option.bind_some]
            exact d1
          · rw [if_neg c3, if_neg c3]
            obtain ⟨σ3, c1', c2', c3'⟩ := goBack_eq hn a2 ho.2.1
            have x3 : EX σ σ3 := a3.ex.trans c3'.ex
            obtain ⟨σ4, d1, d2, d3, d4⟩ := ihc (i + 1) F' σ3 a (by omega) (by omega) c2' ((hW.keep (fun x y q => a3 x y (by omega) (by omega))).keep (fun x y q => c3' x y (by omega) (by omega))) (by omega) (f2 σ3 x3) (fx σ3 x3)
            refine ⟨σ4, ?_, d2, d3, x3.trans d4⟩
            rw [c1', Option.bind_some]
            exact d1
    have hB' : a.length + e.n * 5 ^ d < 2 ^ 30 := by
      have h5 : 5 ^ (d + 1) = 5 * 5 ^ d := by rw [Nat.pow_succ, Nat.mul_comm]
      have h6 : e.n * 5 ^ d ≤ 5 * 5 ^ d := Nat.mul_le_mul_right _ hn
      omega
    unfold X3_seekWaysBehind
    rw [h.1.1, if_pos (show nI pre.length < nI e.n by rw [nI_ltI (by omega) (by omega)]; omega)]
    exact loop e.n 0 FU σ a (by omega) (by rw [FU_eq]; omega) h hW hB' h2 hx
