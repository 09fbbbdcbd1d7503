theorem pigeon : ∀ (n : Nat) (l : List Nat), l.Nodup → (∀ g, g ∈ l → g < n) → l.length ≤ n := by
  intro n
  induction n with
  | zero =>
    intro l _ h
    cases l with
    | nil => exact Nat.le_refl 0
    | cons g b => exact absurd (h g List.mem_cons_self) (by omega)
  | succ n ih =>
    intro l hd h
    have h1 := ih (l.erase n) (hd.erase n) (fun g hg => by
      have h2 := (hd.mem_erase_iff).mp hg
      have h3 := h g h2.2
      have h4 := h2.1
      omega)
    have h5 := List.length_erase (a := n) (l := l)
    split at h5 <;> omega
def OkP (e : Evg) (pre : List Nat) : Prop := pre.Nodup ∧ ∀ g, g ∈ pre → g < e.n
theorem OkP.len {e : Evg} {pre : List Nat} (h : OkP e pre) : pre.length ≤ e.n := pigeon _ _ h.1 h.2
def CellsX (e : Evg) (σ : St) : List Nat → Prop
  | [] => True
  | g :: b => σ.1 29 b.length = nI g ∧ σ.1 30 b.length = e.T g ∧ σ.1 31 b.length = wmt e (g :: b) ∧ σ.1 32 b.length = bo e g b ∧ σ.1 33 b.length = sc e g b ∧ CellsX e σ b
theorem CellsX.keep {e : Evg} {σ σ' : St} : ∀ {b : List Nat}, CellsX e σ b → (∀ x y, 29 ≤ x → x ≤ 33 → y < b.length → σ'.1 x y = σ.1 x y) → CellsX e σ' b
  | [], _, _ => trivial
  | g :: b, h, k => by
    obtain ⟨h1, h2, h3, h4, h5, h6⟩ := h
    have k' : ∀ x, 29 ≤ x → x ≤ 33 → σ'.1 x b.length = σ.1 x b.length := fun x a c => k x _ a c (by simp)
    exact ⟨(k' _ (by decide) (by decide)).trans h1, (k' _ (by decide) (by decide)).trans h2, (k' _ (by decide) (by decide)).trans h3, (k' _ (by decide) (by decide)).trans h4, (k' _ (by decide) (by decide)).trans h5, CellsX.keep h6 (fun x y a c hy => k x y a c (by simp only [List.length_cons]; omega))⟩
theorem CellsX.drop {e : Evg} {σ : St} : ∀ (d : Nat) {b : List Nat}, CellsX e σ b → CellsX e σ (b.drop d)
  | 0, _, h => h
  | _ + 1, [], _ => trivial
  | d + 1, _ :: _, h => CellsX.drop d h.2.2.2.2.2
def MaskX (pre : List Nat) (σ : St) : Prop := ∃ M, M < 32 ∧ σ.1 27 9 = nI M ∧ ∀ g, g < 5 → M.testBit g = decide (g ∈ pre)
def HoldX (e : Evg) (pre : List Nat) (σ : St) : Prop := EnvX e σ ∧ OkP e pre ∧ σ.1 27 8 = nI pre.length ∧ MaskX pre σ ∧ CellsX e σ pre
theorem bit_read : ∀ M, M < 32 → ∀ g, g < 5 → (((nI M >>> (nI g &&& 31)) &&& 1 = 0) ↔ M.testBit g = false) := by decide +kernel
theorem bit_set : ∀ M, M < 32 → ∀ g, g < 5 → nI M ||| (1 <<< (nI g &&& 31)) = nI (M ||| 2 ^ g) ∧ M ||| 2 ^ g < 32 ∧ ∀ h, h < 5 → (M ||| 2 ^ g).testBit h = (decide (h = g) || M.testBit h) := by decide +kernel
theorem bit_clr : ∀ M, M < 32 → ∀ g, g < 5 → nI M &&& ((1 <<< (nI g &&& 31)) ^^^ (-1)) = nI (M &&& (31 ^^^ 2 ^ g)) ∧ M &&& (31 ^^^ 2 ^ g) < 32 ∧ ∀ h, h < 5 → (M &&& (31 ^^^ 2 ^ g)).testBit h = (!decide (h = g) && M.testBit h) := by decide +kernel
theorem hasCome_eq {e : Evg} {pre : List Nat} {σ : St} (hn : e.n ≤ 5) (h : HoldX e pre σ) {g : Nat} (hg : g < e.n) : X1_hasCome (nI g) σ = some (if g ∈ pre then 1 else 0) := by
  obtain ⟨h1, h2, h3, ⟨M, m1, m2, m3⟩, h5⟩ := h
  unfold X1_hasCome
  rw [has_eq hn h1.1, Option.bind_some, tiI (by omega), if_pos (show (0 : Int) ≤ ((g : Nat) : Int) ∧ ((g : Nat) : Int) < (e.n : Int) by omega), if_neg (show ¬ (1 : Int32) = 0 by decide), m2]
  have b := bit_read M m1 g (by omega)
  rw [m3 g (by omega)] at b
  by_cases c : g ∈ pre
  · rw [if_pos c, if_neg (fun q => by have := b.mp q; simp [c] at this)]
  · rw [if_neg c, if_pos (b.mpr (by simp [c]))]
theorem behind_eq {e : Evg} {σ : St} {pre : List Nat} (hl : pre.length ≤ 5) (h8 : σ.1 27 8 = nI pre.length) (hc : CellsX e σ pre) {i : Nat} (hi : i < pre.length) : X1_warmthBehind (nI i) σ = some (wmt e (pre.drop (pre.length - 1 - i))) := by
  unfold X1_warmthBehind
  rw [if_neg (nI_pos (by omega)), h8, if_neg (show ¬ nI pre.length ≤ nI i by rw [nI_leI (by omega) (by omega)]; omega), if_neg (show ¬ 5 ≤ nI i by rw [show (5 : Int32) = nI 5 from rfl, nI_leI (by omega) (by omega)]; omega), if_neg (show ¬ ob (nI i) 5 by rw [ob_iff (by decide), tiI (by omega)]; omega), tnI (by omega)]
  have hd := hc.drop (pre.length - 1 - i)
  have e1 := List.drop_eq_getElem_cons (l := pre) (i := pre.length - 1 - i) (by omega)
  have e2 : (pre.drop (pre.length - 1 - i + 1)).length = i := by rw [List.length_drop]; omega
  rw [e1] at hd ⊢
  have := hd.2.2.1
  rw [e2] at this
  rw [this]
theorem now_eq {e : Evg} {σ : St} {pre : List Nat} (hl : pre.length ≤ 5) (h0 : σ.1 1 0 = e.w0) (h8 : σ.1 27 8 = nI pre.length) (hc : CellsX e σ pre) : X1_warmthNow σ = some (wmt e pre) := by
  unfold X1_warmthNow
  cases pre with
  | nil => rw [h8, if_pos (by decide), h0]; rfl
  | cons g b =>
    have hb := behind_eq hl h8 hc (i := b.length) (by simp)
    rw [h8, if_neg (show ¬ nI (g :: b).length ≤ 0 by rw [show (0 : Int32) = nI 0 from rfl, nI_leI (by omega) (by decide)]; simp), show nI (g :: b).length - 1 = nI b.length from nI_pred _, hb]
    simp
theorem hear149 {e : Evg} {pre : List Nat} (hl : pre.length ≤ 5) {g : Nat} : ∀ (d i F : Nat) (σ : St), i + d = pre.length → d < F → σ.1 27 8 = nI pre.length → CellsX e σ pre → σ.1 28 0 = e.T g → σ.1 28 1 = lastT e (pre.drop d) → σ.1 28 4 = nI (saidN e g (pre.drop d)) → ∃ σ', X1_hear_b149 F (nI i) σ = some σ' ∧ (∀ a b, ¬ (a = 28 ∧ (b = 1 ∨ b = 4)) → σ'.1 a b = σ.1 a b) ∧ σ'.1 28 1 = lastT e pre ∧ σ'.1 28 4 = nI (saidN e g pre) := by
  intro d
  induction d with
  | zero =>
    intro i F σ hi hF h8 hc h0 h1 h4
    obtain ⟨F', rfl⟩ : ∃ F', F = F' + 1 := ⟨F - 1, by omega⟩
    rw [X1_hear_b149, h8, if_pos (show nI pre.length ≤ nI i by rw [nI_leI (by omega) (by omega)]; omega)]
    exact ⟨σ, rfl, fun _ _ _ => rfl, h1, h4⟩
  | succ d ih =>
    intro i F σ hi hF h8 hc h0 h1 h4
    obtain ⟨F', rfl⟩ : ∃ F', F = F' + 1 := ⟨F - 1, by omega⟩
    have e1 := List.drop_eq_getElem_cons (l := pre) (i := d) (by omega)
    have e2 : (pre.drop (d + 1)).length = i := by rw [List.length_drop]; omega
    have hd := hc.drop d
    rw [e1] at hd
    have ht := hd.2.1
    rw [e2] at ht
    rw [X1_hear_b149, h8, if_neg (show ¬ nI pre.length ≤ nI i by rw [nI_leI (by omega) (by omega)]; omega), if_neg (show ¬ 5 ≤ nI i by rw [show (5 : Int32) = nI 5 from rfl, nI_leI (by omega) (by omega)]; omega), if_neg (show ¬ ob (nI i) 5 by rw [ob_iff (by decide), tiI (by omega)]; omega), tnI (by omega), ht, up_eq, up_pl (by decide), h0]
    by_cases c : e.T pre[d] = e.T g
    · rw [if_pos c, nI_1]
      obtain ⟨σ', a1, a2, a3, a4⟩ := ih (i + 1) F' (up (up σ 28 1 (e.T pre[d])) 28 4 ((up σ 28 1 (e.T pre[d])).1 28 4 + 1)) (by omega) (by omega) (by rw [up_lo (by decide), up_lo (by decide)]; exact h8) (hc.keep (fun x y p q _ => by rw [up_lo (by omega), up_lo (by omega)])) (by rw [up_pl (by decide), up_pl (by decide)]; exact h0) (by rw [up_pl (by decide), up_eq, e1]; rfl) (by
        rw [up_eq, up_pl (by decide), h4, nI_1, e1]
        show _ = nI ((if e.T pre[d] = e.T g then 1 else 0) + saidN e g (pre.drop (d + 1)))
        rw [if_pos c, Nat.add_comm])
      refine ⟨σ', a1, fun a b hab => ?_, a3, a4⟩
      rw [a2 a b hab, up_get, if_neg (by omega), up_get, if_neg (by omega)]
    · rw [if_neg c, nI_1]
      obtain ⟨σ', a1, a2, a3, a4⟩ := ih (i + 1) F' (up σ 28 1 (e.T pre[d])) (by omega) (by omega) (by rw [up_lo (by decide)]; exact h8) (hc.keep (fun x y p q _ => by rw [up_lo (by omega)])) (by rw [up_pl (by decide)]; exact h0) (by rw [up_eq, e1]; rfl) (by
        rw [up_pl (by decide), h4, e1]
        show _ = nI ((if e.T pre[d] = e.T g then 1 else 0) + saidN e g (pre.drop (d + 1)))
        rw [if_neg c, Nat.zero_add])
      refine ⟨σ', a1, fun a b hab => ?_, a3, a4⟩
      rw [a2 a b hab, up_get, if_neg (by omega)]
