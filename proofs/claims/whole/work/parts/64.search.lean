/-- the guest who came last goes back -/
theorem goBack_eq {e : Evg} {g : Nat} {pre : List Nat} {σ : St} (hn : e.n ≤ 5) (h : HoldX e (g :: pre) σ) (hr : e.r < 6) : ∃ σ', X1_goBack σ = some σ' ∧ HoldX e pre σ' ∧ EXu σ σ' := by
  obtain ⟨hE, hO, h8, ⟨M, m1, m2, m3⟩, hc⟩ := id h
  have hl := hO.len
  simp only [List.length_cons] at hl h8
  have hg : g < e.n := hO.2 g List.mem_cons_self
  have hgp : g ∉ pre := (List.nodup_cons.mp hO.1).1
  have q1 : (up σ 27 8 (nI pre.length)).1 27 8 = nI pre.length := up_eq
  have q2 : (up σ 27 8 (nI pre.length)).1 29 pre.length = nI g := by rw [up_lo (by decide)]; exact hc.1
  have q3 : (up σ 27 8 (nI pre.length)).1 27 9 = nI M := by rw [up_pl (by decide)]; exact m2
  obtain ⟨s1, s2, s3⟩ := bit_clr M m1 g (by omega)
  have hx : EXu σ (up (up σ 27 8 (nI pre.length)) 27 9 (nI (M &&& (31 ^^^ 2 ^ g)))) := fun a b _ q => by rw [up_lo (by omega), up_lo (by omega)]
  refine ⟨up (up σ 27 8 (nI pre.length)) 27 9 (nI (M &&& (31 ^^^ 2 ^ g))), ?_, ⟨hE.keep hr hx.ex, ⟨(List.nodup_cons.mp hO.1).2, fun x hx => hO.2 x (List.mem_cons_of_mem _ hx)⟩, ?_, ⟨_, s2, up_eq, fun y hy => ?_⟩, ?_⟩, hx⟩
  · unfold X1_goBack
    rw [h8, if_neg (show ¬ nI (pre.length + 1) ≤ 0 by rw [show (0 : Int32) = nI 0 from rfl, nI_leI (by omega) (by decide)]; omega), if_neg (show ¬ 5 < nI (pre.length + 1) by rw [show (5 : Int32) = nI 5 from rfl, nI_ltI (by decide) (by omega)]; omega), nI_pred, q1, if_neg (show ¬ ob (nI pre.length) 5 by rw [ob_iff (by decide), tiI (by omega)]; omega), tnI (by omega), q2, q3, s1]
  · rw [up_pl (by decide), up_eq]
  · rw [s3 y hy, m3 y hy]
    by_cases c : y = g
    · subst c
      simp [hgp]
    · simp [c]
  · exact hc.2.2.2.2.2.keep (fun x y p q _ => by rw [up_lo (by omega), up_lo (by omega)])
/-- those who came, as digits -/
def dgI : List Nat → Int32
  | [] => 0
  | g :: b => dgI b * 10 + nI g + 1
theorem digits4 {e : Evg} {pre : List Nat} (hl : pre.length ≤ 5) {σ : St} (h8 : σ.1 27 8 = nI pre.length) (hc : CellsX e σ pre) : ∀ (d i F : Nat), i + d = pre.length → d < F → X1_digits_b4 F (dgI (pre.drop d)) (nI i) σ = some (dgI pre) := by
  intro d
  induction d with
  | zero =>
    intro i F hi hF
    obtain ⟨F', rfl⟩ : ∃ F', F = F' + 1 := ⟨F - 1, by omega⟩
    rw [X1_digits_b4, h8, if_pos (show nI pre.length ≤ nI i by rw [nI_leI (by omega) (by omega)]; omega)]
    rfl
  | succ d ih =>
    intro i F hi hF
    obtain ⟨F', rfl⟩ : ∃ F', F = F' + 1 := ⟨F - 1, by omega⟩
    have e1 := List.drop_eq_getElem_cons (l := pre) (i := d) (by omega)
    have e2 : (pre.drop (d + 1)).length = i := by rw [List.length_drop]; omega
    have hd := hc.drop d
    rw [e1] at hd
    have ht := hd.1
    rw [e2] at ht
    have e3 : dgI (pre.drop d) = dgI (pre.drop (d + 1)) * 10 + nI pre[d] + 1 := by rw [e1]; rfl
    rw [X1_digits_b4, h8, if_neg (show ¬ nI pre.length ≤ nI i by rw [nI_leI (by omega) (by omega)]; omega), if_neg (show ¬ 5 ≤ nI i by rw [show (5 : Int32) = nI 5 from rfl, nI_leI (by omega) (by omega)]; omega), if_neg (show ¬ ob (nI i) 5 by rw [ob_iff (by decide), tiI (by omega)]; omega), tnI (by omega), ht, nI_1, ← e3]
    exact ih (i + 1) F' (by omega) (by omega)
theorem digitsX {e : Evg} {pre : List Nat} (hl : pre.length ≤ 5) {σ : St} (h8 : σ.1 27 8 = nI pre.length) (hc : CellsX e σ pre) : X1_digits σ = some (dgI pre) := by
  have h := digits4 hl h8 hc pre.length 0 FU (by omega) (by rw [FU_eq]; omega)
  rw [List.drop_length] at h
  exact h
/-- a loop over numbers one behind the other -/
def lpF {α : Type} (f : Nat → α → α) : Nat → Nat → α → α
  | 0, _, a => a
  | c + 1, i, a => lpF f c (i + 1) (f i a)
/-- all who are below n lie in a list -/
theorem cover : ∀ (n : Nat) (l : List Nat), (∀ g, g < n → g ∈ l) → n ≤ l.length := by
  intro n
  induction n with
  | zero => intro l _; exact Nat.zero_le _
  | succ n ih =>
    intro l h
    have h1 := ih (l.erase n) (fun g hg => (List.mem_erase_of_ne (by omega)).mpr (h g (by omega)))
    have h2 := List.length_erase_of_mem (h n (by omega))
    have h3 := List.length_pos_of_mem (h n (by omega))
    omega
/-- the guests that have still to come, as the reference's bits: ab is left out -/
def SetM (n ab : Nat) (pre : List Nat) (M : Nat) : Prop := M < 32 ∧ ∀ g, g < 5 → M.testBit g = decide (g < n ∧ g ≠ ab ∧ g ∉ pre)
def allN (n ab : Nat) : Nat := if ab < n then n - 1 else n
theorem mask0 : ∀ M, M < 32 → ((∀ g, g < 5 → M.testBit g = false) ↔ M = 0) := by decide +kernel
theorem SetM.zero {e : Evg} {ab d : Nat} {pre : List Nat} {M : Nat} (hn : e.n ≤ 5) (h : SetM e.n ab pre M) (hO : OkP e pre) (hab : ab ∉ pre) (hd : pre.length + d = allN e.n ab) : nI M = 0 ↔ d = 0 := by
  have h0 := h.1
  rw [show (0 : Int32) = nI 0 from rfl, nI_eq (by omega) (by decide), ← mask0 M h.1]
  unfold allN at hd
  refine ⟨fun q => ?_, fun q g hg => ?_⟩
  · have cov : ∀ g, g < e.n → g ∈ ab :: pre := fun g hg => by
      have h1 := h.2 g (by omega)
      rw [q g (by omega)] at h1
      have h2 := of_decide_eq_false h1.symm
      by_cases c : g = ab
      · exact c ▸ List.mem_cons_self
      · exact List.mem_cons_of_mem _ (Decidable.byContradiction fun z => h2 ⟨hg, c, z⟩)
    by_cases c : ab < e.n
    · have := cover _ _ cov
      rw [if_pos c] at hd
      simp only [List.length_cons] at this
      omega
    · have := cover e.n pre (fun g hg => by
        rcases List.mem_cons.mp (cov g hg) with rfl | z
        · exact absurd hg c
        · exact z)
      rw [if_neg c] at hd
      omega
  · subst q
    rw [h.2 g hg]
    refine decide_eq_false (fun z => ?_)
    by_cases c : ab < e.n
    · rw [if_pos c] at hd
      have := pigeon e.n (g :: ab :: pre) (List.nodup_cons.mpr ⟨fun y => by
        rcases List.mem_cons.mp y with y | y
        · exact z.2.1 y
        · exact z.2.2 y, List.nodup_cons.mpr ⟨hab, hO.1⟩⟩) (fun x hx => by
        rcases List.mem_cons.mp hx with rfl | hx
        · exact z.1
        · rcases List.mem_cons.mp hx with rfl | hx
          · exact c
          · exact hO.2 x hx)
      simp only [List.length_cons] at this
      omega
    · rw [if_neg c] at hd
      have := pigeon e.n (g :: pre) (List.nodup_cons.mpr ⟨z.2.2, hO.1⟩) (fun x hx => by
        rcases List.mem_cons.mp hx with rfl | hx
        · exact z.1
        · exact hO.2 x hx)
      simp only [List.length_cons] at this
      omega
/-- one bit read, one taken away -/
theorem SetM.bit {n ab : Nat} {pre : List Nat} {M : Nat} (h : SetM n ab pre M) {g : Nat} (hg : g < 5) : (nI M >>> (nI g &&& 31)) &&& 1 = 1 ↔ (g < n ∧ g ≠ ab ∧ g ∉ pre) := by
  have br := bit_read M h.1 g hg
  rw [h.2 g hg] at br
  obtain ⟨j, hj, ej⟩ := pk_andE (nI M >>> (nI g &&& 31)) (m := 1) 1 (by decide)
  rw [ej] at br ⊢
  rcases (show j = 0 ∨ j = 1 by omega) with rfl | rfl
  · exact ⟨fun q => absurd q (by decide), fun q => absurd q (of_decide_eq_false (br.mp rfl))⟩
  · refine ⟨fun _ => ?_, fun _ => rfl⟩
    exact Decidable.byContradiction fun q => absurd (br.mpr (decide_eq_false q)) (by decide)
theorem SetM.take {n ab : Nat} {pre : List Nat} {M : Nat} (h : SetM n ab pre M) {g : Nat} (hg : g < 5) : ∃ M', nI M &&& ((1 <<< (nI g &&& 31)) ^^^ (-1)) = nI M' ∧ SetM n ab (g :: pre) M' := by
  obtain ⟨s1, s2, s3⟩ := bit_clr M h.1 g hg
  refine ⟨_, s1, s2, fun y hy => ?_⟩
  rw [s3 y hy, h.2 y hy]
  by_cases c : y = g
  · subst c; simp
  · simp [c]
theorem all_bits : ∀ n, n ≤ 5 → (1 <<< (nI n &&& 31)) - 1 = nI (2 ^ n - 1) ∧ 2 ^ n - 1 < 32 ∧ ∀ g, g < 5 → (2 ^ n - 1).testBit g = decide (g < n) := by decide +kernel
theorem everybody_eq {n : Nat} (hn : n ≤ 5) {μ : St} (h : μ.1 0 11 = nI n) : X10_everybody μ = some (nI (2 ^ n - 1)) := by
  unfold X10_everybody
  rw [h, (all_bits n hn).1]
theorem SetM.all {n ab : Nat} (hn : n ≤ 5) (hab : 5 ≤ ab) : SetM n ab [] (2 ^ n - 1) := by
  obtain ⟨s1, s2, s3⟩ := all_bits n hn
  refine ⟨s2, fun g hg => ?_⟩
  rw [s3 g hg]
  refine decide_eq_decide.mpr ⟨fun q => ⟨q, by omega, List.not_mem_nil⟩, fun q => q.1⟩
theorem SetM.but {n ab : Nat} (hn : n ≤ 5) (hab : ab < 5) : ∃ M, nI (2 ^ n - 1) &&& ((1 <<< (nI ab &&& 31)) ^^^ (-1)) = nI M ∧ SetM n ab [] M := by
  obtain ⟨s1, s2, s3⟩ := all_bits n hn
  obtain ⟨t1, t2, t3⟩ := bit_clr _ s2 ab hab
  refine ⟨_, t1, t2, fun g hg => ?_⟩
  rw [t3 g hg, s3 g hg]
  by_cases c : g = ab
  · subst c; simp
  · simp [c]
