def CellsM (e : Evg) (μ : St) : List Nat → Prop
  | [] => μ.1 8 0 = e.w0
  | g :: b => μ.1 7 b.length = nI g ∧ μ.1 8 (b.length + 1) = wmt e (g :: b) ∧ μ.1 9 b.length = bo e g b ∧ μ.1 10 b.length = sc e g b ∧ CellsM e μ b
theorem CellsM.keep {e : Evg} {μ μ' : St} : ∀ {b : List Nat}, CellsM e μ b → (∀ x y, x = 7 ∨ x = 9 ∨ x = 10 → y < b.length → μ'.1 x y = μ.1 x y) → (∀ y, y < b.length + 1 → μ'.1 8 y = μ.1 8 y) → CellsM e μ' b
  | [], h, _, k8 => (k8 0 (by decide)).trans h
  | g :: b, h, k, k8 => by
    obtain ⟨h1, h2, h3, h4, h5⟩ := h
    have k' : ∀ x, x = 7 ∨ x = 9 ∨ x = 10 → μ'.1 x b.length = μ.1 x b.length := fun x a => k x _ a (by simp)
    exact ⟨(k' _ (by decide)).trans h1, (k8 _ (by simp)).trans h2, (k' _ (by decide)).trans h3, (k' _ (by decide)).trans h4, CellsM.keep h5 (fun x y a hy => k x y a (by simp only [List.length_cons]; omega)) (fun y hy => k8 y (by simp only [List.length_cons]; omega))⟩
theorem CellsM.drop {e : Evg} {μ : St} : ∀ (d : Nat) {b : List Nat}, CellsM e μ b → CellsM e μ (b.drop d)
  | 0, _, h => h
  | _ + 1, [], h => h
  | d + 1, _ :: _, h => CellsM.drop d h.2.2.2.2
theorem CellsM.w {e : Evg} {μ : St} {b : List Nat} (h : CellsM e μ b) : μ.1 8 b.length = wmt e b := by
  cases b with
  | nil => exact h
  | cons g b => exact h.2.1
def HoldM (e : Evg) (pre : List Nat) (μ : St) : Prop := EnvM e μ ∧ OkP e pre ∧ CellsM e μ pre
theorem topicOf_eq {e : Evg} {μ : St} (hn : e.n ≤ 5) (h : EnvM e μ) {g : Nat} (hg : g < e.n) : X10_topicOf (nI g) μ = some (e.T g) := by
  unfold X10_topicOf
  rw [show (3 : Int32) * nI g + 1 = nI (3 * g + 1) by rw [show (3 : Int32) = nI 3 from rfl, pk_mul, nI_1], if_neg (show ¬ ob (nI (3 * g + 1)) 15 by rw [ob_iff (by decide), tiI (by omega)]; omega), tnI (by omega), (h.2.2.2.2.2.1 g hg).2.2.1]
def HeardM (e : Evg) (g : Nat) (pre : List Nat) (w : Int32) (μ : St) : Prop := μ.1 0 12 = e.T g ∧ μ.1 0 13 = lastT e pre ∧ μ.1 0 14 = w ∧ μ.1 0 15 = e.N g ∧ μ.1 0 16 = nI (saidN e g pre) ∧ μ.1 0 17 = nI pre.length
theorem looks63 {e : Evg} (hn : e.n ≤ 5) {pre : List Nat} (hO : OkP e pre) {g : Nat} : ∀ (d i F : Nat) (μ : St), i + d = pre.length → d < F → EnvM e μ → CellsM e μ pre → μ.1 0 12 = e.T g → μ.1 0 16 = nI (saidN e g (pre.drop d)) → ∃ μ', X10_looks_b63 F (nI pre.length) (nI i) μ = some μ' ∧ (∀ a b, ¬ (a = 0 ∧ (b = 16 ∨ b = 17)) → μ'.1 a b = μ.1 a b) ∧ μ'.1 0 16 = nI (saidN e g pre) ∧ μ'.1 0 17 = nI pre.length := by
  have hl : pre.length ≤ 5 := Nat.le_trans hO.len hn
  intro d
  induction d with
  | zero =>
    intro i F μ hi hF hE hc h0 h4
    obtain ⟨F', rfl⟩ : ∃ F', F = F' + 1 := ⟨F - 1, by omega⟩
    rw [X10_looks_b63, if_pos (show nI pre.length ≤ nI i by rw [nI_leI (by omega) (by omega)]; omega)]
    exact ⟨_, rfl, fun a b h => by rw [up_get, if_neg (by omega)], by rw [up_pl (by decide)]; exact h4, up_eq⟩
  | succ d ih =>
    intro i F μ hi hF hE hc h0 h4
    obtain ⟨F', rfl⟩ : ∃ F', F = F' + 1 := ⟨F - 1, by omega⟩
    have e1 := List.drop_eq_getElem_cons (l := pre) (i := d) (by omega)
    have e2 : (pre.drop (d + 1)).length = i := by rw [List.length_drop]; omega
    have hd := hc.drop d
    rw [e1] at hd
    have ht := hd.1
    rw [e2] at ht
    have hgd : pre[d] < e.n := hO.2 _ (List.getElem_mem _)
    rw [X10_looks_b63, if_neg (show ¬ nI pre.length ≤ nI i by rw [nI_leI (by omega) (by omega)]; omega), if_neg (show ¬ ob (nI i) 5 by rw [ob_iff (by decide), tiI (by omega)]; omega), tnI (by omega), ht, topicOf_eq hn hE hgd, Option.bind_some, h0]
    unfold X10_looks_b95
    rw [nI_1, h4]
    have step : ∀ v : Int32, v = nI (saidN e g (pre.drop d)) → ∃ μ', X10_looks_b63 F' (nI pre.length) (nI (i + 1)) (up μ 0 16 v) = some μ' ∧ (∀ a b, ¬ (a = 0 ∧ (b = 16 ∨ b = 17)) → μ'.1 a b = μ.1 a b) ∧ μ'.1 0 16 = nI (saidN e g pre) ∧ μ'.1 0 17 = nI pre.length := fun v hv => by
      obtain ⟨μ', a1, a2, a3, a4⟩ := ih (i + 1) F' (up μ 0 16 v) (by omega) (by omega) (hE.keep (fun a b h => by
        rw [up_get, if_neg (fun q => by obtain ⟨rfl, rfl⟩ := q; exact Bool.noConfusion (show true = false from h))])) (hc.keep (fun x y p _ => up_lo (by omega)) (fun y _ => up_lo (by decide))) (by rw [up_pl (by decide)]; exact h0) (by rw [up_eq, hv])
      exact ⟨μ', a1, fun a b hab => by rw [a2 a b hab, up_get, if_neg (by omega)], a3, a4⟩
    by_cases c : e.T pre[d] = e.T g
    · rw [if_pos c]
      refine step _ ?_
      rw [nI_1, e1]
      show _ = nI ((if e.T pre[d] = e.T g then 1 else 0) + saidN e g (pre.drop (d + 1)))
      rw [if_pos c, Nat.add_comm]
    · rw [if_neg c]
      refine step _ ?_
      rw [show ∀ x : Int32, x + 0 = x from fun x => Int32.add_zero x, e1]
      show _ = nI ((if e.T pre[d] = e.T g then 1 else 0) + saidN e g (pre.drop (d + 1)))
      rw [if_neg c, Nat.zero_add]
theorem looks_eq {e : Evg} (hn : e.n ≤ 5) {pre : List Nat} (hO : OkP e pre) {g : Nat} (hg : g < e.n) {μ : St} (hE : EnvM e μ) (hc : CellsM e μ pre) (hl5 : pre.length < 5) : ∃ μ', X10_looks (nI g) (nI pre.length) μ = some μ' ∧ (∀ a b, ¬ (a = 0 ∧ 12 ≤ b ∧ b ≤ 17) → μ'.1 a b = μ.1 a b) ∧ HeardM e g pre (wmt e pre) μ' := by
  have b31 : ∀ (s0 : Int32), s0 = lastT e pre → ∃ μ', X10_looks_b31 (nI g) (nI pre.length) s0 (up μ 0 12 (e.T g)) = some μ' ∧ (∀ a b, ¬ (a = 0 ∧ 12 ≤ b ∧ b ≤ 17) → μ'.1 a b = μ.1 a b) ∧ HeardM e g pre (wmt e pre) μ' := fun s0 hs => by
    unfold X10_looks_b31
    rw [if_neg (show ¬ ob (nI pre.length) 6 by rw [ob_iff (by decide), tiI (by omega)]; omega), show (3 : Int32) * nI g = nI (3 * g) from pk_mul 3 g, if_neg (show ¬ ob (nI (3 * g)) 15 by rw [ob_iff (by decide), tiI (by omega)]; omega), tnI (by omega), tnI (by omega)]
    have q1 : (up (up μ 0 12 (e.T g)) 0 13 s0).1 8 pre.length = wmt e pre := by rw [up_lo (by decide), up_lo (by decide)]; exact hc.w
    rw [q1]
    have q2 : (up (up (up μ 0 12 (e.T g)) 0 13 s0) 0 14 (wmt e pre)).1 6 (3 * g) = e.N g := by rw [up_lo (by decide), up_lo (by decide), up_lo (by decide)]; exact (hE.2.2.2.2.2.1 g hg).2.1
    rw [q2]
    obtain ⟨μ', a1, a2, a3, a4⟩ := looks63 hn hO (g := g) pre.length 0 FU (up (up (up (up (up μ 0 12 (e.T g)) 0 13 s0) 0 14 (wmt e pre)) 0 15 (e.N g)) 0 16 0) (by omega) (by rw [FU_eq]; omega) (hE.keep (fun a b h => by
      have hne : ¬ (a = 0 ∧ (b = 12 ∨ b = 13 ∨ b = 14 ∨ b = 15 ∨ b = 16)) := fun q => by
        obtain ⟨rfl, rfl | rfl | rfl | rfl | rfl⟩ := q <;> exact Bool.noConfusion (show true = false from h)
      rw [up_get, if_neg (by omega), up_get, if_neg (by omega), up_get, if_neg (by omega), up_get, if_neg (by omega), up_get, if_neg (by omega)])) (hc.keep (fun x y p _ => by rw [up_lo (by omega), up_lo (by omega), up_lo (by omega), up_lo (by omega), up_lo (by omega)]) (fun y _ => by rw [up_lo (by omega), up_lo (by omega), up_lo (by omega), up_lo (by omega), up_lo (by omega)])) (by rw [up_pl (by decide), up_pl (by decide), up_pl (by decide), up_pl (by decide), up_eq]) (by rw [up_eq, List.drop_length]; rfl)
    refine ⟨μ', a1, fun a b hab => ?_, ?_, ?_, ?_, ?_, a3, a4⟩
    · rw [a2 a b (by omega), up_get, if_neg (by omega), up_get, if_neg (by omega), up_get, if_neg (by omega), up_get, if_neg (by omega), up_get, if_neg (by omega)]
    · rw [a2 _ _ (by decide), up_pl (by decide), up_pl (by decide), up_pl (by decide), up_pl (by decide), up_eq]
    · rw [a2 _ _ (by decide), up_pl (by decide), up_pl (by decide), up_pl (by decide), up_eq, hs]
    · rw [a2 _ _ (by decide), up_pl (by decide), up_pl (by decide), up_eq]
    · rw [a2 _ _ (by decide), up_pl (by decide), up_eq]
  unfold X10_looks
  rw [topicOf_eq hn hE hg, Option.bind_some]
  cases pre with
  | nil =>
    rw [if_pos (show nI ([] : List Nat).length = 0 from rfl)]
    exact b31 8 rfl
  | cons h b =>
    rw [if_neg (show ¬ nI (h :: b).length = 0 by rw [show (0 : Int32) = nI 0 from rfl, nI_eq (by omega) (by decide)]; simp), show nI (h :: b).length - 1 = nI b.length from nI_pred _]
    have hb : b.length < 5 := by simp only [List.length_cons] at hl5; omega
    rw [if_neg (show ¬ ob (nI b.length) 5 by rw [ob_iff (by decide), tiI (by omega)]; omega), tnI (by omega), show (up μ 0 12 (e.T g)).1 7 b.length = nI h from hc.1, topicOf_eq hn (hE.keep (fun x y h => by
      rw [up_get, if_neg (fun q => by obtain ⟨rfl, rfl⟩ := q; exact Bool.noConfusion (show true = false from h))])) (hO.2 h List.mem_cons_self), Option.bind_some]
    exact b31 _ rfl
