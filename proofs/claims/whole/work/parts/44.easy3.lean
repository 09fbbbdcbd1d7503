/-- welcome, said plainly -/
def wel (σ : St) (n : Nat) (k b t : Int32) : St := up (up (up (up (up σ 2 n k) 3 n b) 4 n t) 5 n 1) 1 5 (nI (n + 1))
def welM (μ : St) (n : Nat) (k b t : Int32) : St := up (up (up (up (up μ 5 n k) 6 (3 * n) b) 6 (3 * n + 1) t) 6 (3 * n + 2) 1) 0 11 (nI (n + 1))
theorem welcome_eq {σ : St} {n : Nat} (hn : n ≤ 5) (h : σ.1 1 5 = nI n) (k b t : Int32) : X5_welcome 1 k b t σ = if n < 5 then some (nI n, wel σ n k b t) else some (-4, σ) := by
  unfold X5_welcome
  rw [if_pos oX1, h, if_neg (nI_pos (show n < 2 ^ 31 by omega))]
  by_cases c : n < 5
  · have hob : ¬ ob (nI n) 5 := by rw [ob_iff (by decide), tiI (by omega)]; omega
    rw [if_pos c, if_pos (show nI n < 5 from nI_lt c (by decide))]
    rw [show rfX 1 6 = 2 from rfl, show rfX 1 7 = 3 from rfl, show rfX 1 8 = 4 from rfl, show rfX 1 9 = 5 from rfl, show lnX 2 = 5 from rfl, show lnX 3 = 5 from rfl, show lnX 4 = 5 from rfl, show lnX 5 = 5 from rfl]
    rw [if_pos (by decide), if_neg hob, if_pos (by decide), if_neg hob, if_pos (by decide), if_neg hob, if_pos (by decide), if_neg hob, tnI (by omega)]
    have e : (up (up (up (up σ 2 n k) 3 n b) 4 n t) 5 n 1).1 1 5 = nI n := h
    rw [e, nI_1]
    rfl
  · have e : n = 5 := by omega
    subst e
    rw [if_neg c, if_neg (by decide)]
theorem guestM_eq {μ : St} {n : Nat} (hn : n ≤ 5) (h : μ.1 0 11 = nI n) (k b t : Int32) : X10_guest k b t μ = if (0 ≤ k.toInt ∧ k.toInt ≤ 5) ∧ (0 ≤ b.toInt ∧ b.toInt ≤ 9) ∧ (0 ≤ t.toInt ∧ t.toInt ≤ 7) then (if n < 5 then some (nI n, welM μ n k b t) else some (-4, μ)) else some (-2, μ) := by
  unfold X10_guest
  rw [in_i, in_i, in_i, show (0 : Int64).toInt = 0 by decide, show (5 : Int64).toInt = 5 by decide, show (9 : Int64).toInt = 9 by decide, show (7 : Int64).toInt = 7 by decide]
  simp only [Option.bind_some]
  by_cases c1 : 0 ≤ k.toInt ∧ k.toInt ≤ 5
  · rw [if_pos c1, if_neg (show ¬ (1 : Int32) = 0 by decide)]
    by_cases c2 : 0 ≤ b.toInt ∧ b.toInt ≤ 9
    · rw [if_pos c2, if_neg (show ¬ (1 : Int32) = 0 by decide)]
      by_cases c3 : 0 ≤ t.toInt ∧ t.toInt ≤ 7
      · rw [if_pos c3, if_neg (show ¬ (1 : Int32) = 0 by decide), if_pos (show (0 ≤ k.toInt ∧ k.toInt ≤ 5) ∧ (0 ≤ b.toInt ∧ b.toInt ≤ 9) ∧ (0 ≤ t.toInt ∧ t.toInt ≤ 7) from ⟨c1, c2, c3⟩), h]
        by_cases c : n < 5
        · rw [if_pos c, if_neg (show ¬ nI n = 5 from fun q => by have := (nI_eq (by omega) (by decide)).mp (q.trans (show (5 : Int32) = nI 5 from rfl)); omega), if_neg (show ¬ ob (nI n) 5 by rw [ob_iff (by decide), tiI (by omega)]; omega), tnI (by omega)]
          have e1 : (up μ 5 n k).1 0 11 = nI n := h
          rw [e1, show (3 : Int32) * nI n = nI (3 * n) from pk_mul 3 n, if_neg (show ¬ ob (nI (3 * n)) 15 by rw [ob_iff (by decide), tiI (by omega)]; omega), tnI (by omega)]
          have e2 : (up (up μ 5 n k) 6 (3 * n) b).1 0 11 = nI n := h
          rw [e2, show (3 : Int32) * nI n = nI (3 * n) from pk_mul 3 n, nI_1, if_neg (show ¬ ob (nI (3 * n + 1)) 15 by rw [ob_iff (by decide), tiI (by omega)]; omega), tnI (by omega)]
          have e3 : (up (up (up μ 5 n k) 6 (3 * n) b) 6 (3 * n + 1) t).1 0 11 = nI n := h
          rw [e3, show (3 : Int32) * nI n = nI (3 * n) from pk_mul 3 n, show nI (3 * n) + 2 = nI (3 * n + 2) from nI_add _ _, if_neg (show ¬ ob (nI (3 * n + 2)) 15 by rw [ob_iff (by decide), tiI (by omega)]; omega), tnI (by omega)]
          have e4 : (up (up (up (up μ 5 n k) 6 (3 * n) b) 6 (3 * n + 1) t) 6 (3 * n + 2) 1).1 0 11 = nI n := h
          rw [e4, nI_1, up_eq, show nI (n + 1) - 1 = nI n from nI_pred n]
          rfl
        · have e : n = 5 := by omega
          subst e
          rw [if_neg c, if_pos (by decide)]
      · rw [if_neg c3, if_pos rfl, if_neg (fun q => c3 q.2.2)]
    · rw [if_neg c2, if_pos rfl, if_neg (fun q => c2 q.2.1)]
  · rw [if_neg c1, if_pos rfl, if_neg (fun q => c1 q.1)]
theorem guestX_eq {σ : St} {n : Nat} (hn : n ≤ 5) (h : σ.1 1 5 = nI n) (k b t : Int32) : X9_guest k b t σ = if (0 ≤ k.toInt ∧ k.toInt ≤ 5) ∧ (0 ≤ b.toInt ∧ b.toInt ≤ 9) ∧ (0 ≤ t.toInt ∧ t.toInt ≤ 7) then (if n < 5 then some (nI n, wel σ n k b t) else some (-4, σ)) else some (-2, σ) := by
  unfold X9_guest
  rw [m6, m3, m4, welcome_eq hn h]
  simp only [Option.bind_some]
  by_cases c1 : 0 ≤ k.toInt ∧ k.toInt ≤ 5
  · rw [if_pos c1, if_neg (show ¬ (1 : Int32) = 0 by decide)]
    by_cases c2 : 0 ≤ b.toInt ∧ b.toInt ≤ 9
    · rw [if_pos c2, if_neg (show ¬ (1 : Int32) = 0 by decide)]
      by_cases c3 : 0 ≤ t.toInt ∧ t.toInt ≤ 7
      · rw [if_pos c3, if_neg (show ¬ (1 : Int32) = 0 by decide), if_pos (show (0 ≤ k.toInt ∧ k.toInt ≤ 5) ∧ (0 ≤ b.toInt ∧ b.toInt ≤ 9) ∧ (0 ≤ t.toInt ∧ t.toInt ≤ 7) from ⟨c1, c2, c3⟩)]
        by_cases c : n < 5
        · rw [if_pos c]; rfl
        · rw [if_neg c]; rfl
      · rw [if_neg c3, if_pos rfl, if_neg (fun q => c3 q.2.2)]
    · rw [if_neg c2, if_pos rfl, if_neg (fun q => c2 q.2.1)]
  · rw [if_neg c1, if_pos rfl, if_neg (fun q => c1 q.1)]
theorem wel_rel {n t k : Nat} {ev : Nat → Nat → Nm → Int32} {σ μ : St} (hR : RelN n t k ev σ μ) (hn : n < 5) {a b c : Int32} (ha : rng 0 5 a) (hb : rng 0 9 b) (hc : rng 0 7 c) : RelN (n + 1) t k ev (wel σ n a b c) (welM μ n a b c) := by
  obtain ⟨h1, h2, h3, h4, h5, h6, h7⟩ := id hR
  obtain ⟨n1, n2, n3, n4, n5, n6, n7, n8, n9, n10⟩ := id h1
  have lo : ∀ (x y : Nat), 5 < x → (wel σ n a b c).1 x y = σ.1 x y := fun x y hx => by
    unfold wel
    rw [up_lo (by omega), up_lo (by omega), up_lo (by omega), up_lo (by omega), up_lo (by omega)]
  refine ⟨⟨by omega, n2, n3, n4, rfl, rfl, n7, n8, n9, n10⟩, h2.keep rfl rfl rfl rfl rfl rfl rfl rfl rfl rfl, ?_, h4.keep (fun _ _ => rfl) (fun _ _ => rfl), h5.keep (fun t _ j => lo _ _ (by omega)) (fun _ _ => rfl) (fun _ _ => rfl) (fun _ _ => rfl) (fun _ _ _ _ => rfl) (fun _ _ => rfl), RImg.moreN (σ := wel σ n a b c) (μ := welM μ n a b c) (h6.keep rfl (fun _ => rfl) ?_ (fun _ => rfl) (fun _ => rfl) (fun _ => rfl) (fun _ => rfl) rfl rfl rfl (fun _ => rfl) (fun _ => rfl)) (Nat.le_succ n), h7.keep (fun s _ => lo _ _ (by omega)) (fun s _ => lo _ _ (by omega)) (fun s _ j => lo _ _ (by omega)) (fun _ => rfl) (fun _ => rfl) (fun _ => rfl) (fun _ => rfl)⟩
  · intro g hg
    by_cases e : g = n
    · subst e
      have e1 : (wel σ g a b c).1 2 g = a := by unfold wel; rw [up_lo (by decide), up_lo (by decide), up_lo (by decide), up_lo (by decide), up_eq]
      have e2 : (wel σ g a b c).1 3 g = b := by unfold wel; rw [up_lo (by decide), up_lo (by decide), up_lo (by decide), up_eq]
      have e3 : (wel σ g a b c).1 4 g = c := by unfold wel; rw [up_lo (by decide), up_lo (by decide), up_eq]
      have e4 : (wel σ g a b c).1 5 g = 1 := by unfold wel; rw [up_lo (by decide), up_eq]
      have f1 : (welM μ g a b c).1 5 g = a := by unfold welM; rw [up_lo (by decide), up_lo (by decide), up_lo (by decide), up_lo (by decide), up_eq]
      have f2 : (welM μ g a b c).1 6 (3 * g) = b := by unfold welM; rw [up_lo (by decide), up_pl (by omega), up_pl (by omega), up_eq]
      have f3 : (welM μ g a b c).1 6 (3 * g + 1) = c := by unfold welM; rw [up_lo (by decide), up_pl (by omega), up_eq]
      have f4 : (welM μ g a b c).1 6 (3 * g + 2) = 1 := by unfold welM; rw [up_lo (by decide), up_eq]
      rw [e1, e2, e3, e4, f1, f2, f3, f4]
      exact ⟨rfl, rfl, rfl, rfl, ha, hb, hc, by unfold rng; decide⟩
    · have e1 : ∀ x, (wel σ n a b c).1 x g = if x = 1 ∧ g = 5 then nI (n + 1) else σ.1 x g := fun x => by
        unfold wel
        rw [up_get]
        split
        · rfl
        · rw [up_pl e, up_pl e, up_pl e, up_pl e]
      have f1 : (welM μ n a b c).1 5 g = μ.1 5 g := by unfold welM; rw [up_lo (by decide), up_lo (by decide), up_lo (by decide), up_lo (by decide), up_pl e]
      have f2 : ∀ y, y < 3 → (welM μ n a b c).1 6 (3 * g + y) = μ.1 6 (3 * g + y) := fun y hy => by unfold welM; rw [up_lo (by decide), up_pl (by omega), up_pl (by omega), up_pl (by omega), up_lo (by decide)]
      rw [e1, e1, e1, e1, f1, f2 1 (by omega), f2 2 (by omega), show (welM μ n a b c).1 6 (3 * g) = μ.1 6 (3 * g) from f2 0 (by omega)]
      exact h3 g (by omega)
  · intro g hg
    unfold wel
    rw [up_lo (by decide), up_lo (by decide), up_lo (by decide), up_lo (by decide), up_pl (by omega)]
/-- what a guest who comes leaves as it was -/
def EX9 (σ σ' : St) : Prop := ∀ a b, 5 < a → σ'.1 a b = σ.1 a b
def EM9 (μ μ' : St) : Prop := ∀ a b, 6 < a → μ'.1 a b = μ.1 a b
theorem guest_both {n t k : Nat} {ev : Nat → Nat → Nm → Int32} {σ μ : St} (hR : RelN n t k ev σ μ) (a b c : Int32) : ∃ r σ1 μ1 n', X9_guest a b c σ = some (r, σ1) ∧ X10_guest a b c μ = some (r, μ1) ∧ RelN n' t k ev σ1 μ1 ∧ EX9 σ σ1 ∧ EM9 μ μ1 := by
  obtain ⟨h1, -⟩ := id hR
  rw [guestX_eq h1.1 h1.2.2.2.2.1, guestM_eq h1.1 h1.2.2.2.2.2.1]
  by_cases c1 : (0 ≤ a.toInt ∧ a.toInt ≤ 5) ∧ (0 ≤ b.toInt ∧ b.toInt ≤ 9) ∧ (0 ≤ c.toInt ∧ c.toInt ≤ 7)
  · rw [if_pos c1, if_pos c1]
    by_cases c2 : n < 5
    · rw [if_pos c2, if_pos c2]
      refine ⟨nI n, _, _, n + 1, rfl, rfl, wel_rel hR c2 c1.1 c1.2.1 c1.2.2, fun x y hx => ?_, fun x y hx => ?_⟩
      · unfold wel
        rw [up_lo (by omega), up_lo (by omega), up_lo (by omega), up_lo (by omega), up_lo (by omega)]
      · unfold welM
        rw [up_lo (by omega), up_lo (by omega), up_lo (by omega), up_lo (by omega), up_lo (by omega)]
    · rw [if_neg c2, if_neg c2]
      exact ⟨-4, σ, μ, n, rfl, rfl, hR, fun _ _ _ => rfl, fun _ _ _ => rfl⟩
  · rw [if_neg c1, if_neg c1]
    exact ⟨-2, σ, μ, n, rfl, rfl, hR, fun _ _ _ => rfl, fun _ _ _ => rfl⟩
theorem sim_guest : Sim_guest Rel := by
  intro a b c σ μ ⟨n, t, k, ev, hR⟩
  obtain ⟨r, σ1, μ1, n', e1, e2, e3, -⟩ := guest_both hR a b c
  exact ⟨r, σ1, μ1, e1, e2, n', t, k, ev, e3⟩
