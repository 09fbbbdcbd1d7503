/-- screams of an evening; its first boil -/
def nsc (e : Evg) : List Nat → Nat
  | [] => 0
  | g :: b => nsc e b + (if sc e g b = 0 then 0 else 1)
def fb (e : Evg) : List Nat → Int32
  | [] => -1
  | g :: b => if fb e b = -1 then (if bo e g b = 0 then -1 else nI b.length) else fb e b
theorem fb_drop {e : Evg} : ∀ (d : Nat) (pre : List Nat), fb e (pre.drop d) ≠ -1 → fb e pre = fb e (pre.drop d)
  | 0, _, _ => rfl
  | _ + 1, [], _ => rfl
  | d + 1, g :: b, h => by
    have h1 := fb_drop d b h
    show (if fb e b = -1 then _ else fb e b) = fb e (b.drop d)
    rw [h1, if_neg (show ¬ fb e (b.drop d) = -1 from h)]
theorem nsc_le (e : Evg) : ∀ (pre : List Nat), nsc e pre ≤ pre.length
  | [] => Nat.le_refl 0
  | g :: b => by
    have := nsc_le e b
    show nsc e b + (if sc e g b = 0 then 0 else 1) ≤ b.length + 1
    split <;> omega
theorem screamsX4 {e : Evg} {pre : List Nat} (hl : pre.length ≤ 5) {σ : St} (h8 : σ.1 27 8 = nI pre.length) (hc : CellsX e σ pre) : ∀ (d i F : Nat), i + d = pre.length → d < F → X1_screamsSoFar_b4 F (nI (nsc e (pre.drop d))) (nI i) σ = some (nI (nsc e pre)) := by
  intro d
  induction d with
  | zero =>
    intro i F hi hF
    obtain ⟨F', rfl⟩ : ∃ F', F = F' + 1 := ⟨F - 1, by omega⟩
    rw [X1_screamsSoFar_b4, h8, if_pos (show nI pre.length ≤ nI i by rw [nI_leI (by omega) (by omega)]; omega)]
    rfl
  | succ d ih =>
    intro i F hi hF
    obtain ⟨F', rfl⟩ : ∃ F', F = F' + 1 := ⟨F - 1, by omega⟩
    have e1 := List.drop_eq_getElem_cons (l := pre) (i := d) (by omega)
    have e2 : (pre.drop (d + 1)).length = i := by rw [List.length_drop]; omega
    have hd := hc.drop d
    rw [e1] at hd
    have ht := hd.2.2.2.2.1
    rw [e2] at ht
    have e3 : nsc e (pre.drop d) = nsc e (pre.drop (d + 1)) + (if sc e pre[d] (pre.drop (d + 1)) = 0 then 0 else 1) := by rw [e1]; rfl
    rw [X1_screamsSoFar_b4, h8, if_neg (show ¬ nI pre.length ≤ nI i by rw [nI_leI (by omega) (by omega)]; omega), if_neg (show ¬ 5 ≤ nI i by rw [show (5 : Int32) = nI 5 from rfl, nI_leI (by omega) (by omega)]; omega), if_neg (show ¬ ob (nI i) 5 by rw [ob_iff (by decide), tiI (by omega)]; omega), tnI (by omega), ht, nI_1, nI_1]
    have go := ih (i + 1) F' (by omega) (by omega)
    by_cases c : sc e pre[d] (pre.drop (d + 1)) = 0
    · rw [if_pos c] at e3 ⊢
      rw [e3] at go
      exact go
    · rw [if_neg c] at e3 ⊢
      rw [e3] at go
      exact go
theorem screamsX {e : Evg} {pre : List Nat} (hl : pre.length ≤ 5) {σ : St} (h8 : σ.1 27 8 = nI pre.length) (hc : CellsX e σ pre) : X1_screamsSoFar σ = some (nI (nsc e pre)) := by
  have h := screamsX4 hl h8 hc pre.length 0 FU (by omega) (by rw [FU_eq]; omega)
  rw [List.drop_length] at h
  exact h
theorem boilX2 {e : Evg} {pre : List Nat} (hl : pre.length ≤ 5) {σ : St} (h8 : σ.1 27 8 = nI pre.length) (hc : CellsX e σ pre) : ∀ (d i F : Nat), i + d = pre.length → d < F → fb e (pre.drop d) = -1 → X1_firstBoil_b2 F (nI i) σ = some (fb e pre) := by
  intro d
  induction d with
  | zero =>
    intro i F hi hF hfb
    obtain ⟨F', rfl⟩ : ∃ F', F = F' + 1 := ⟨F - 1, by omega⟩
    rw [X1_firstBoil_b2, h8, if_pos (show nI pre.length ≤ nI i by rw [nI_leI (by omega) (by omega)]; omega), show fb e pre = -1 from hfb]
  | succ d ih =>
    intro i F hi hF hfb
    obtain ⟨F', rfl⟩ : ∃ F', F = F' + 1 := ⟨F - 1, by omega⟩
    have e1 := List.drop_eq_getElem_cons (l := pre) (i := d) (by omega)
    have e2 : (pre.drop (d + 1)).length = i := by rw [List.length_drop]; omega
    have hd := hc.drop d
    rw [e1] at hd
    have ht := hd.2.2.2.1
    rw [e2] at ht
    have e3 : fb e (pre.drop d) = (if bo e pre[d] (pre.drop (d + 1)) = 0 then -1 else nI (pre.drop (d + 1)).length) := by
      rw [e1]
      show (if fb e (pre.drop (d + 1)) = -1 then _ else _) = _
      rw [if_pos hfb]
    rw [e2] at e3
    rw [X1_firstBoil_b2, h8, if_neg (show ¬ nI pre.length ≤ nI i by rw [nI_leI (by omega) (by omega)]; omega), if_neg (show ¬ 5 ≤ nI i by rw [show (5 : Int32) = nI 5 from rfl, nI_leI (by omega) (by omega)]; omega), if_neg (show ¬ ob (nI i) 5 by rw [ob_iff (by decide), tiI (by omega)]; omega), tnI (by omega), ht, nI_1]
    by_cases c : bo e pre[d] (pre.drop (d + 1)) = 0
    · rw [if_pos c] at e3 ⊢
      exact ih (i + 1) F' (by omega) (by omega) e3
    · rw [if_neg c] at e3 ⊢
      rw [fb_drop d pre (by rw [e3]; exact nI_ne1 (by omega)), e3]
theorem boilX {e : Evg} {pre : List Nat} (hl : pre.length ≤ 5) {σ : St} (h8 : σ.1 27 8 = nI pre.length) (hc : CellsX e σ pre) : X1_firstBoil σ = some (fb e pre) := boilX2 hl h8 hc pre.length 0 FU (by omega) (by rw [FU_eq]; omega) (by rw [List.drop_length]; rfl)
theorem screamsM4 {e : Evg} {pre : List Nat} (hl : pre.length ≤ 5) {μ : St} (hc : CellsM e μ pre) : ∀ (d i F : Nat), i + d = pre.length → d < F → X10_screamsTill_b4 F (nI pre.length) (nI (nsc e (pre.drop d))) (nI i) μ = some (nI (nsc e pre)) := by
  intro d
  induction d with
  | zero =>
    intro i F hi hF
    obtain ⟨F', rfl⟩ : ∃ F', F = F' + 1 := ⟨F - 1, by omega⟩
    rw [X10_screamsTill_b4, if_pos (show nI pre.length ≤ nI i by rw [nI_leI (by omega) (by omega)]; omega)]
    rfl
  | succ d ih =>
    intro i F hi hF
    obtain ⟨F', rfl⟩ : ∃ F', F = F' + 1 := ⟨F - 1, by omega⟩
    have e1 := List.drop_eq_getElem_cons (l := pre) (i := d) (by omega)
    have e2 : (pre.drop (d + 1)).length = i := by rw [List.length_drop]; omega
    have hd := hc.drop d
    rw [e1] at hd
    have ht := hd.2.2.2.1
    rw [e2] at ht
    have e3 : nsc e (pre.drop d) = nsc e (pre.drop (d + 1)) + (if sc e pre[d] (pre.drop (d + 1)) = 0 then 0 else 1) := by rw [e1]; rfl
    rw [X10_screamsTill_b4, if_neg (show ¬ nI pre.length ≤ nI i by rw [nI_leI (by omega) (by omega)]; omega), if_neg (show ¬ ob (nI i) 5 by rw [ob_iff (by decide), tiI (by omega)]; omega), tnI (by omega), ht]
    unfold X10_screamsTill_b24
    rw [nI_1, nI_1, show ∀ x : Int32, x + 0 = x from fun x => Int32.add_zero x]
    have go := ih (i + 1) F' (by omega) (by omega)
    by_cases c : sc e pre[d] (pre.drop (d + 1)) = 0
    · rw [if_pos c] at e3 ⊢
      rw [e3] at go
      exact go
    · rw [if_neg c] at e3 ⊢
      rw [e3] at go
      exact go
theorem screamsM {e : Evg} {pre : List Nat} (hl : pre.length ≤ 5) {μ : St} (hc : CellsM e μ pre) : X10_screamsTill (nI pre.length) μ = some (nI (nsc e pre)) := by
  have h := screamsM4 hl hc pre.length 0 FU (by omega) (by rw [FU_eq]; omega)
  rw [List.drop_length] at h
  exact h
theorem boilM2 {e : Evg} {pre : List Nat} (hl : pre.length ≤ 5) {μ : St} (hc : CellsM e μ pre) : ∀ (d i F : Nat), i + d = pre.length → d < F → fb e (pre.drop d) = -1 → X10_boilsAt_b2 F (nI pre.length) (nI i) μ = some (fb e pre) := by
  intro d
  induction d with
  | zero =>
    intro i F hi hF hfb
    obtain ⟨F', rfl⟩ : ∃ F', F = F' + 1 := ⟨F - 1, by omega⟩
    rw [X10_boilsAt_b2, if_pos (show nI pre.length ≤ nI i by rw [nI_leI (by omega) (by omega)]; omega), show fb e pre = -1 from hfb]
  | succ d ih =>
    intro i F hi hF hfb
    obtain ⟨F', rfl⟩ : ∃ F', F = F' + 1 := ⟨F - 1, by omega⟩
    have e1 := List.drop_eq_getElem_cons (l := pre) (i := d) (by omega)
    have e2 : (pre.drop (d + 1)).length = i := by rw [List.length_drop]; omega
    have hd := hc.drop d
    rw [e1] at hd
    have ht := hd.2.2.1
    rw [e2] at ht
    have e3 : fb e (pre.drop d) = (if bo e pre[d] (pre.drop (d + 1)) = 0 then -1 else nI (pre.drop (d + 1)).length) := by
      rw [e1]
      show (if fb e (pre.drop (d + 1)) = -1 then _ else _) = _
      rw [if_pos hfb]
    rw [e2] at e3
    rw [X10_boilsAt_b2, if_neg (show ¬ nI pre.length ≤ nI i by rw [nI_leI (by omega) (by omega)]; omega), if_neg (show ¬ ob (nI i) 5 by rw [ob_iff (by decide), tiI (by omega)]; omega), tnI (by omega), ht, nI_1]
    by_cases c : bo e pre[d] (pre.drop (d + 1)) = 0
    · rw [if_pos c] at e3 ⊢
      exact ih (i + 1) F' (by omega) (by omega) e3
    · rw [if_neg c] at e3 ⊢
      rw [fb_drop d pre (by rw [e3]; exact nI_ne1 (by omega)), e3]
theorem boilM {e : Evg} {pre : List Nat} (hl : pre.length ≤ 5) {μ : St} (hc : CellsM e μ pre) : X10_boilsAt (nI pre.length) μ = some (fb e pre) := boilM2 hl hc pre.length 0 FU (by omega) (by rw [FU_eq]; omega) (by rw [List.drop_length]; rfl)
