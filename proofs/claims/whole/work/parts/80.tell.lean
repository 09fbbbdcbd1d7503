theorem joinX (c a b : Int32) : X8_joined c a b = some (joinV c a b) := by
  unfold X8_joined joinV
  by_cases c1 : c = -13
  · rw [if_pos c1, if_pos c1]
  rw [if_neg c1, if_neg c1]
  by_cases c2 : c = -12
  · rw [if_pos c2, if_pos c2]
  rw [if_neg c2, if_neg c2]
  by_cases c3 : c = -11
  · rw [if_pos c3, if_pos c3]
    by_cases z : a = b
    · rw [if_pos z, if_pos z]
    · rw [if_neg z, if_neg z]
  rw [if_neg c3, if_neg c3]
  by_cases c4 : c = -10
  · rw [if_pos c4, if_pos c4]
    by_cases z : b ≤ a
    · rw [if_pos z, if_pos z]
    · rw [if_neg z, if_neg z]
  rw [if_neg c4, if_neg c4]
  by_cases c5 : c = -9
  · rw [if_pos c5, if_pos c5]
  rw [if_neg c5, if_neg c5]
  by_cases c6 : c = -8
  · rw [if_pos c6, if_pos c6]
    by_cases z : a = 0
    · rw [if_pos z, if_pos z]
    · rw [if_neg z, if_neg z]
      by_cases y : b = 0
      · rw [if_pos y, if_pos y]
      · rw [if_neg y, if_neg y]
  rw [if_neg c6, if_neg c6]
  by_cases c7 : c = -7
  · rw [if_pos c7, if_pos c7]
    by_cases z : a = 0
    · rw [if_pos z, if_pos z]
      by_cases y : b = 0
      · rw [if_pos y, if_pos y]
      · rw [if_neg y, if_neg y]
    · rw [if_neg z, if_neg z]
  rw [if_neg c7, if_neg c7]
theorem namedX (c : Int32) (σ : St) : X4_named c σ = some (namedV (nmX σ) c) := by
  unfold X4_named namedV
  by_cases c1 : c = -5
  · rw [if_pos c1, if_pos c1]; rfl
  rw [if_neg c1, if_neg c1]
  by_cases c2 : c = -4
  · rw [if_pos c2, if_pos c2]; rfl
  rw [if_neg c2, if_neg c2]
  by_cases c3 : c = -3
  · rw [if_pos c3, if_pos c3]; rfl
  rw [if_neg c3, if_neg c3]
  by_cases c4 : c = -2
  · rw [if_pos c4, if_pos c4]; rfl
  rw [if_neg c4, if_neg c4]
  by_cases c5 : c = -1
  · rw [if_pos c5, if_pos c5]; rfl
  rw [if_neg c5, if_neg c5]
  rfl
/-- the numbers at hand, the last first -/
def StkX (σ : St) : List Int32 → Prop
  | [] => True
  | x :: r => σ.1 24 r.length = x ∧ StkX σ r
theorem StkX.keep {σ σ' : St} : ∀ {s : List Int32}, StkX σ s → (∀ j, j < s.length → σ'.1 24 j = σ.1 24 j) → StkX σ' s
  | [], _, _ => trivial
  | x :: r, h, k => ⟨(k _ (by simp)).trans h.1, StkX.keep h.2 (fun j hj => k j (by simp only [List.length_cons]; omega))⟩
theorem StkX.put {σ : St} {s : List Int32} (h : StkX σ s) (v : Int32) : StkX (up σ 24 s.length v) (v :: s) := ⟨up_eq, h.keep (fun j hj => up_pl (by omega))⟩
theorem tell90 {kk : Nat} (hkk : kk < 6) {nm : Nm} {v : Int32} {r : List Int32} : ∀ (seg : List Int32) (i F : Nat) (s : List Int32) (σ : St), (∀ j, j < seg.length → σ.1 (15 + kk) (i + j) = seg.getD j 0) → i + seg.length ≤ 160 → seg.length < F → StkX σ s → s.length ≤ i → nmX σ = nm → runV nm seg s = some (v :: r) → ∃ σ', X8_tell_b90 F (nI kk) (nI (i + seg.length)) (nI s.length) (nI i) σ = some (v, σ') ∧ ∀ a b, a ≠ 24 → σ'.1 a b = σ.1 a b := by
  have o6 : ¬ ob (nI kk) 6 := by rw [ob_iff (by decide), tiI (by omega)]; omega
  have le0 : ∀ n : Nat, n < 2 ^ 30 → ¬ nI (n + 1) ≤ 0 := fun n hn => by rw [show (0 : Int32) = nI 0 from rfl, nI_leI (by omega) (by decide)]; omega
  intro seg
  induction seg with
  | nil =>
    intro i F s σ hc hi hF hs hsl hnm hr
    obtain ⟨F', rfl⟩ : ∃ F', F = F' + 1 := ⟨F - 1, by omega⟩
    have e0 : s = v :: r := Option.some.inj hr
    subst e0
    simp only [List.length_nil, Nat.add_zero, List.length_cons] at hi hsl ⊢
    have e287 : X8_tell_b287 (nI (r.length + 1)) σ = some (v, σ) := by
      unfold X8_tell_b287
      rw [if_neg (le0 _ (by omega)), nI_pred, if_neg (show ¬ ob (nI r.length) 160 by rw [ob_iff (by decide), tiI (by omega)]; omega), tnI (by omega), hs.1]
    refine ⟨σ, ?_, fun _ _ _ => rfl⟩
    rw [X8_tell_b90, if_neg (nI_pos (by omega)), if_pos (show nI i ≤ nI i by rw [nI_leI (by omega) (by omega)]; omega)]
    exact e287
  | cons c seg ih =>
    intro i F s σ hc hi hF hs hsl hnm hr
    obtain ⟨F', rfl⟩ : ∃ F', F = F' + 1 := ⟨F - 1, by omega⟩
    simp only [List.length_cons] at hi hF
    have hc0 : σ.1 (15 + kk) i = c := by
      have := hc 0 (by simp)
      rw [Nat.add_zero] at this
      exact this
    have hseg : i + (c :: seg).length = (i + 1) + seg.length := by simp only [List.length_cons]; omega
    have hcs : ∀ τ : St, (∀ a b, a ≠ 24 → τ.1 a b = σ.1 a b) → ∀ j, j < seg.length → τ.1 (15 + kk) (i + 1 + j) = seg.getD j 0 := fun τ hτ j hj => by
      rw [hτ _ _ (by omega), show i + 1 + j = i + (j + 1) by omega, hc (j + 1) (by simp only [List.length_cons]; omega)]
      rfl
    have hnm' : ∀ τ : St, (∀ a b, a ≠ 24 → τ.1 a b = σ.1 a b) → nmX τ = nm := fun τ hτ => by
      rw [← hnm]
      funext y
      unfold nmX
      rw [hτ 28 y (by decide)]
    have u24 : ∀ j w a b, a ≠ 24 → (up σ 24 j w).1 a b = σ.1 a b := fun j w a b h => up_lo h
    have o160 : ∀ n : Nat, n < 160 → ¬ ob (nI n) 160 := fun n hn => by rw [ob_iff (by decide), tiI (by omega)]; omega
    have hr' : (stO nm c s).bind (fun s' => runV nm seg s') = some (v :: r) := hr
    have go : ∀ (s' : List Int32) (j : Nat) (w : Int32), stO nm c s = some s' → StkX (up σ 24 j w) s' → s'.length ≤ i + 1 → ∃ σ', X8_tell_b90 F' (nI kk) (nI (i + (c :: seg).length)) (nI s'.length) (nI (i + 1)) (up σ 24 j w) = some (v, σ') ∧ ∀ a b, a ≠ 24 → σ'.1 a b = σ.1 a b := fun s' j w h1 h2 h3 => by
      rw [h1, Option.bind_some] at hr'
      rw [hseg]
      obtain ⟨σ', a1, a2⟩ := ih (i + 1) F' s' (up σ 24 j w) (hcs _ (u24 j w)) (by omega) (by omega) h2 h3 (hnm' _ (u24 j w)) hr'
      exact ⟨σ', a1, fun a b h => (a2 a b h).trans (u24 j w a b h)⟩
    rw [X8_tell_b90, if_neg (nI_pos (by omega)), if_neg (show ¬ nI (i + (c :: seg).length) ≤ nI i by rw [nI_leI (by simp only [List.length_cons]; omega) (by omega)]; simp only [List.length_cons]; omega), if_neg (show ¬ 160 ≤ nI i by rw [show (160 : Int32) = nI 160 from rfl, nI_leI (by decide) (by omega)]; omega), if_neg o6]
    simp only [tnI (show kk < 2 ^ 31 by omega), rT hkk, tnI (show i < 2 ^ 31 by omega), hc0]
    rw [if_pos (aT hkk), lT hkk, if_neg (o160 i (by omega)), nI_1]
    by_cases c1 : c ≤ -7
    · rw [if_pos c1]
      by_cases c2 : c = -9
      · have hst : stO nm c s = st1 notV s := (if_pos c1).trans (if_pos c2)
        cases s with
        | nil => rw [hst] at hr'; cases hr'
        | cons x s0 =>
          simp only [List.length_cons] at hsl
          rw [List.length_cons, if_pos (show 1 ≤ nI (s0.length + 1) by rw [show (1 : Int32) = nI 1 from rfl, nI_leI (by decide) (by omega)]; omega), if_pos c2, nI_pred, if_neg (o160 _ (by omega)), tnI (by omega), hs.1]
          unfold X8_tell_b207
          simp only [if_neg (o160 s0.length (by omega)), tnI (show s0.length < 2 ^ 31 by omega), nI_1]
          have g := go (notV x :: s0) s0.length (notV x) hst ((hs.2).put _) (by simp only [List.length_cons]; omega)
          unfold notV at g
          by_cases z : x = 0
          · rw [if_pos z] at g ⊢
            exact g
          · rw [if_neg z] at g ⊢
            exact g
      · rw [if_neg c2]
        by_cases c3 : c = -15
        · have hst : stO nm c s = st1 (fun x => -x) s := ((if_pos c1).trans (if_neg c2)).trans (if_pos c3)
          cases s with
          | nil => rw [hst] at hr'; cases hr'
          | cons x s0 =>
            simp only [List.length_cons] at hsl
            rw [List.length_cons, if_pos (show 1 ≤ nI (s0.length + 1) by rw [show (1 : Int32) = nI 1 from rfl, nI_leI (by decide) (by omega)]; omega), if_pos c3, nI_pred, if_neg (o160 _ (by omega)), if_neg (o160 _ (by omega)), tnI (by omega), hs.1]
            exact go (-x :: s0) s0.length (-x) hst ((hs.2).put _) (by simp only [List.length_cons]; omega)
        · have hst : stO nm c s = st2 (joinV c) s := ((if_pos c1).trans (if_neg c2)).trans (if_neg c3)
          cases s with
          | nil => rw [hst] at hr'; cases hr'
          | cons b s1 =>
            cases s1 with
            | nil => rw [hst] at hr'; cases hr'
            | cons a s0 =>
              simp only [List.length_cons] at hsl
              have hb : σ.1 24 (s0.length + 1) = b := hs.1
              have ha : σ.1 24 s0.length = a := hs.2.1
              rw [List.length_cons, List.length_cons, if_pos (show 1 ≤ nI (s0.length + 1 + 1) by rw [show (1 : Int32) = nI 1 from rfl, nI_leI (by decide) (by omega)]; omega), if_neg c3, if_pos (show 2 ≤ nI (s0.length + 1 + 1) by rw [show (2 : Int32) = nI 2 from rfl, nI_leI (by decide) (by omega)]; omega), pk_m1, nI_pred]
              simp only [if_neg (o160 s0.length (by omega)), if_neg (o160 (s0.length + 1) (by omega)), tnI (show s0.length < 2 ^ 31 by omega), tnI (show s0.length + 1 < 2 ^ 31 by omega), ha, hb, joinX, Option.bind_some]
              exact go (joinV c a b :: s0) s0.length (joinV c a b) hst ((hs.2.2).put _) (by simp only [List.length_cons]; omega)
    · have hst : stO nm c s = some (pushV nm c :: s) := if_neg c1
      rw [if_neg c1, if_pos (show nI s.length < 160 from nI_lt (show s.length < 160 by omega) (by decide))]
      have g := go (pushV nm c :: s) s.length (pushV nm c) hst (hs.put _) (by simp only [List.length_cons]; omega)
      unfold X8_tell_b163
      simp only [if_neg (o160 s.length (by omega)), tnI (show s.length < 2 ^ 31 by omega), nI_1]
      unfold pushV at g
      by_cases z : c < 0
      · rw [if_pos z] at g ⊢
        rw [namedX, Option.bind_some, hnm]
        exact g
      · rw [if_neg z] at g ⊢
        exact g
/-- a text kept: its three parts -/
def DraftX (kk : Nat) (l0 l1 l2 : List Int32) (σ : St) : Prop := kk < 6 ∧ l0.length + l1.length + l2.length ≤ 160 ∧ σ.1 21 kk = nI l0.length ∧ σ.1 22 kk = nI (l0.length + l1.length) ∧ σ.1 23 kk = nI (l0.length + l1.length + l2.length) ∧ ∀ j, j < l0.length + l1.length + l2.length → σ.1 (15 + kk) j = (l0 ++ l1 ++ l2).getD j 0
def segP (l0 l1 l2 : List Int32) (p : Nat) : List Int32 := if p = 0 then l0 else if p = 1 then l1 else l2
def headV : Option (List Int32) → Int32
  | some (v :: _) => v
  | _ => 0
def evT (l0 l1 l2 : List Int32) (p : Nat) (nm : Nm) : Int32 := headV (runV nm (segP l0 l1 l2 p) [])
theorem evT_of {l0 l1 l2 : List Int32} {p : Nat} {nm : Nm} {v : Int32} (h : Val nm (segP l0 l1 l2 p) v) : evT l0 l1 l2 p nm = v := by
  unfold evT
  rw [h []]
  rfl
theorem getD_r {a b : List Int32} {j : Nat} : (a ++ b).getD (a.length + j) 0 = b.getD j 0 := by
  simp only [List.getD]
  rw [List.getElem?_append_right (Nat.le_add_right _ _), Nat.add_sub_cancel_left]
theorem getD_l {a b : List Int32} {j : Nat} (h : j < a.length) : (a ++ b).getD j 0 = a.getD j 0 := by
  simp only [List.getD]
  rw [List.getElem?_append_left h]
theorem draft_txt {kk : Nat} {l0 l1 l2 : List Int32} {σ : St} (h : DraftX kk l0 l1 l2 σ) (hv : ∀ p, p < 3 → ∀ nm, ∃ v, Val nm (segP l0 l1 l2 p) v) : TxtX kk (evT l0 l1 l2) σ := by
  obtain ⟨h1, h2, h3, h4, h5, h6⟩ := h
  intro σ' k15 k21 k22 k23 p hp
  have o6 : ¬ ob (nI kk) 6 := by rw [ob_iff (by decide), tiI (by omega)]; omega
  obtain ⟨v, hval⟩ := hv p hp (nmX σ')
  rw [evT_of hval]
  have run : ∀ i to : Nat, i + (segP l0 l1 l2 p).length = to → to ≤ 160 → (∀ j, j < (segP l0 l1 l2 p).length → (l0 ++ l1 ++ l2).getD (i + j) 0 = (segP l0 l1 l2 p).getD j 0) → to ≤ l0.length + l1.length + l2.length → ∃ σ'', X8_tell_b90 FU (nI kk) (nI to) 0 (nI i) σ' = some (v, σ'') ∧ ∀ a b, a ≠ 24 → σ''.1 a b = σ'.1 a b := fun i to e1 e2 e3 e4 => by
    have := tell90 h1 (nm := nmX σ') (r := []) (segP l0 l1 l2 p) i FU [] σ' (fun j hj => by rw [k15, h6 (i + j) (by omega)]; exact e3 j hj) (by omega) (by rw [FU_eq]; omega) trivial (by simp) rfl (hval [])
    rw [e1] at this
    exact this
  unfold X8_tell
  rw [if_neg (nI_pos (by omega)), if_pos (show nI kk < 6 from nI_lt h1 (by decide))]
  unfold X8_tell_b43 X8_tell_b81
  simp only [if_neg o6, tnI (show kk < 2 ^ 31 by omega), k21, k22, k23, h3, h4, h5]
  rcases (show p = 0 ∨ p = 1 ∨ p = 2 by omega) with rfl | rfl | rfl
  · rw [if_pos (show pcode 0 = -16 from rfl), if_pos (show pcode 0 = -16 from rfl)]
    exact run 0 l0.length (by show 0 + l0.length = l0.length; omega) (by omega) (fun j hj => by
      have hj' : j < l0.length := hj
      rw [Nat.zero_add, List.append_assoc]
      show (l0 ++ (l1 ++ l2)).getD j 0 = l0.getD j 0
      simp [List.getD, List.getElem?_append_left hj']) (by omega)
  · rw [if_neg (show ¬ pcode 1 = -16 by decide), if_pos (show pcode 1 = -17 from rfl), if_neg (show ¬ pcode 1 = -16 by decide), if_pos (show pcode 1 = -17 from rfl)]
    exact run l0.length (l0.length + l1.length) rfl (by omega) (fun j hj => by
      have hj' : j < l1.length := hj
      show (l0 ++ l1 ++ l2).getD (l0.length + j) 0 = l1.getD j 0
      rw [List.append_assoc, getD_r, getD_l hj']) (by omega)
  · rw [if_neg (show ¬ pcode 2 = -16 by decide), if_neg (show ¬ pcode 2 = -17 by decide), if_neg (show ¬ pcode 2 = -16 by decide), if_neg (show ¬ pcode 2 = -17 by decide)]
    exact run (l0.length + l1.length) (l0.length + l1.length + l2.length) rfl h2 (fun j hj => by
      show (l0 ++ l1 ++ l2).getD (l0.length + l1.length + j) 0 = l2.getD j 0
      rw [← List.length_append, getD_r]) (Nat.le_refl _)
