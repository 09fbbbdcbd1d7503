/-- what the reference has noted: at which places who could have come -/
def CM (n : Nat) (Q : Nat → Nat → Prop) (μ : St) : Prop := ∀ g, g < n → ∃ C, C < 32 ∧ μ.1 11 g = nI C ∧ ∀ p, p < 5 → (C.testBit p = true ↔ Q g p)
def QW (e : Evg) (a : List (List Nat)) (g p : Nat) : Prop := ∃ w, w ∈ a ∧ p < e.n ∧ plc w p = g
def WM (e : Evg) (a : List (List Nat)) (μ : St) : Prop := μ.1 0 35 = nI a.length ∧ (∀ w1 rest, a = w1 :: rest → μ.1 0 36 = dgI w1) ∧ (a = [] → μ.1 0 36 = 0) ∧ CM e.n (QW e a) μ
theorem WM.keep {e : Evg} {a : List (List Nat)} {μ μ' : St} (h : WM e a μ) (k0 : ∀ y, y = 35 ∨ y = 36 → μ'.1 0 y = μ.1 0 y) (k11 : ∀ y, μ'.1 11 y = μ.1 11 y) : WM e a μ' := by
  obtain ⟨h1, h2, h3, h4⟩ := h
  refine ⟨(k0 _ (by decide)).trans h1, fun w1 rest q => (k0 _ (by decide)).trans (h2 w1 rest q), fun q => (k0 _ (by decide)).trans (h3 q), fun g hg => ?_⟩
  obtain ⟨C, c1, c2, c3⟩ := h4 g hg
  exact ⟨C, c1, (k11 g).trans c2, c3⟩
theorem ways38 {n : Nat} (hn : n ≤ 5) {w : List Nat} (hw : ∀ p, p < n → plc w p < n) {rec : Int32 → Int32 → Int32 → Int32 → St → Option St} : ∀ (c i F : Nat) (μ : St) (Q : Nat → Nat → Prop), i + c = n → c < F → (∀ p, p < n → μ.1 7 p = nI (plc w p)) → CM n Q μ → ∃ μ', X10_seeksWays_b38 rec F (nI n) (nI i) μ = some μ' ∧ CM n (fun g p => Q g p ∨ (i ≤ p ∧ p < n ∧ plc w p = g)) μ' ∧ ∀ a b, a ≠ 11 → μ'.1 a b = μ.1 a b := by
  intro c
  induction c with
  | zero =>
    intro i F μ Q hi hF h7 hC
    obtain ⟨F', rfl⟩ : ∃ F', F = F' + 1 := ⟨F - 1, by omega⟩
    rw [X10_seeksWays_b38, if_pos (show nI n ≤ nI i by rw [nI_leI (by omega) (by omega)]; omega)]
    refine ⟨μ, rfl, fun g hg => ?_, fun _ _ _ => rfl⟩
    obtain ⟨C, c1, c2, c3⟩ := hC g hg
    refine ⟨C, c1, c2, fun p hp => ?_⟩
    rw [c3 p hp]
    exact ⟨Or.inl, fun q => q.elim id (fun z => by omega)⟩
  | succ c ih =>
    intro i F μ Q hi hF h7 hC
    obtain ⟨F', rfl⟩ : ∃ F', F = F' + 1 := ⟨F - 1, by omega⟩
    have hg0 := hw i (by omega)
    obtain ⟨C0, c1, c2, c3⟩ := hC (plc w i) hg0
    obtain ⟨s1, s2, s3⟩ := bit_set C0 c1 i (by omega)
    have hob : ¬ ob (nI (plc w i)) 5 := by rw [ob_iff (by decide), tiI (by omega)]; omega
    rw [X10_seeksWays_b38, if_neg (show ¬ nI n ≤ nI i by rw [nI_leI (by omega) (by omega)]; omega), if_neg (show ¬ ob (nI i) 5 by rw [ob_iff (by decide), tiI (by omega)]; omega), tnI (by omega), h7 i (by omega), if_neg hob, if_neg hob, tnI (by omega), c2, s1, nI_1]
    have hC' : CM n (fun g p => Q g p ∨ (p = i ∧ plc w p = g)) (up μ 11 (plc w i) (nI (C0 ||| 2 ^ i))) := fun g hg => by
      by_cases z : g = plc w i
      · subst z
        refine ⟨_, s2, up_eq, fun p hp => ?_⟩
        rw [s3 p hp]
        refine ⟨fun q => ?_, fun q => ?_⟩
        · by_cases y : p = i
          · exact Or.inr ⟨y, by rw [y]⟩
          · have : C0.testBit p = true := by simpa [y] using q
            exact Or.inl ((c3 p hp).mp this)
        · rcases q with q | q
          · have := (c3 p hp).mpr q
            simp [this]
          · simp [q.1]
      · obtain ⟨C, d1, d2, d3⟩ := hC g hg
        refine ⟨C, d1, (up_pl z).trans d2, fun p hp => ?_⟩
        rw [d3 p hp]
        refine ⟨Or.inl, fun q => q.elim id (fun y => ?_)⟩
        rw [y.1] at y
        exact absurd y.2.symm z
    obtain ⟨μ', a1, a2, a3⟩ := ih (i + 1) F' _ _ (by omega) (by omega) (fun p hp => (up_lo (by decide)).trans (h7 p hp)) hC'
    refine ⟨μ', a1, fun g hg => ?_, fun a b q => by rw [a3 a b q, up_lo q]⟩
    obtain ⟨C, d1, d2, d3⟩ := a2 g hg
    refine ⟨C, d1, d2, fun p hp => ?_⟩
    rw [d3 p hp]
    refine ⟨fun q => ?_, fun q => ?_⟩
    · rcases q with (q | q) | q
      · exact Or.inl q
      · exact Or.inr ⟨by omega, by omega, q.2⟩
      · exact Or.inr ⟨by omega, q.2⟩
    · rcases q with q | q
      · exact Or.inl (Or.inl q)
      · by_cases y : p = i
        · exact Or.inl (Or.inr ⟨y, q.2.2⟩)
        · exact Or.inr ⟨by omega, q.2⟩
theorem em_cells {μ μ' : St} (k : ∀ a b, ¬ (a = 0 ∧ (b = 35 ∨ b = 36)) → a ≠ 11 → μ'.1 a b = μ.1 a b) : EM μ μ' := fun a b q => k a b (fun z => by
  obtain ⟨rfl, rfl | rfl⟩ := z <;> exact Bool.noConfusion (show true = false from q)) (fun z => by subst z; exact Bool.noConfusion (show true = false from q))
theorem noteM {e : Evg} (ho : EnvOk e) {pre : List Nat} {a : List (List Nat)} {μ : St} {M : Nat} (h : HoldM e pre μ) (hl : pre.length = e.n) (hM : SetM e.n 9 pre M) (ha : a.length + 1 < 2 ^ 30) (hW : WM e a μ) {rec : Int32 → Int32 → Int32 → Int32 → St → Option St} (s : Int32) : ∃ μ', X10_seeksWays rec s (nI M) (nI pre.length) (dgI pre) μ = some μ' ∧ HoldM e pre μ' ∧ WM e (a ++ [pre]) μ' ∧ EM μ μ' := by
  have hn := ho.1
  have h9 : 9 ∉ pre := fun q => by have := h.2.1.2 9 q; omega
  have lt : ∀ p, p < e.n → plc pre p < e.n := fun p hp => h.2.1.2 _ (plc_mem pre p (by omega))
  have h7 : ∀ p, p < e.n → μ.1 7 p = nI (plc pre p) := fun p hp => cellsM_plc h.2.2 p (by omega)
  obtain ⟨w1, w2, w3, w4⟩ := hW
  have e1 : X10_seeksWays rec s (nI M) (nI pre.length) (dgI pre) μ = X10_seeksWays_b32 rec (nI e.n) (if a = [] then dgI pre else μ.1 0 36) (up μ 0 35 (nI (a.length + 1))) := by
    unfold X10_seeksWays
    rw [if_pos ((hM.zero hn h.2.1 h9 (d := 0) (by rw [all9 hn]; omega)).mpr rfl), w1, nI_1, up_eq, hl]
    cases a with
    | nil =>
      rw [if_pos rfl, if_pos (show nI (([] : List (List Nat)).length + 1) = 1 from rfl)]
    | cons y z =>
      simp only [List.length_cons] at ha
      rw [if_neg (show ¬ (y :: z) = [] from List.cons_ne_nil _ _), if_neg (fun q => by
        have := (nI_eq (by simp only [List.length_cons]; omega) (by decide)).mp (q.trans (show (1 : Int32) = nI 1 from rfl))
        simp at this)]
      rw [up_pl (by decide)]
  rw [e1]
  unfold X10_seeksWays_b32
  have k0 : ∀ v x y, ¬ (x = 0 ∧ (y = 35 ∨ y = 36)) → (up (up μ 0 35 (nI (a.length + 1))) 0 36 v).1 x y = μ.1 x y := fun v x y q => by rw [up_get, if_neg (by omega), up_get, if_neg (by omega)]
  obtain ⟨μ', a1, a2, a3⟩ := ways38 hn (w := pre) lt (rec := rec) e.n 0 FU (up (up μ 0 35 (nI (a.length + 1))) 0 36 (if a = [] then dgI pre else μ.1 0 36)) (QW e a) (by omega) (by rw [FU_eq]; omega) (fun p hp => (k0 _ _ _ (by omega)).trans (h7 p hp)) (fun g hg => by
    obtain ⟨C, c1, c2, c3⟩ := w4 g hg
    exact ⟨C, c1, (k0 _ _ _ (by omega)).trans c2, c3⟩)
  have kx : ∀ x y, ¬ (x = 0 ∧ (y = 35 ∨ y = 36)) → x ≠ 11 → μ'.1 x y = μ.1 x y := fun x y q z => (a3 x y z).trans (k0 _ x y q)
  have hEM : EM μ μ' := em_cells kx
  refine ⟨μ', a1, h.kp hEM (fun x y p q => kx x y (by omega) (by omega)), ⟨?_, ?_, ?_, ?_⟩, hEM⟩
  · rw [a3 _ _ (by decide), up_pl (by decide), up_eq, List.length_append]
    rfl
  · intro v1 rest hv
    rw [a3 _ _ (by decide), up_eq]
    cases a with
    | nil =>
      rw [if_pos rfl]
      have : pre = v1 := (List.cons.inj hv).1
      rw [this]
    | cons y z =>
      rw [if_neg (List.cons_ne_nil _ _)]
      have : y = v1 := (List.cons.inj hv).1
      rw [← this]
      exact w2 y z rfl
  · intro hv
    exact absurd hv (by simp)
  · intro g hg
    obtain ⟨C, c1, c2, c3⟩ := a2 g hg
    refine ⟨C, c1, c2, fun p hp => ?_⟩
    rw [c3 p hp]
    unfold QW
    refine ⟨fun q => ?_, fun q => ?_⟩
    · rcases q with ⟨w, q1, q2⟩ | q
      · exact ⟨w, List.mem_append.mpr (Or.inl q1), q2⟩
      · exact ⟨pre, List.mem_append.mpr (Or.inr (List.mem_singleton.mpr rfl)), q.2⟩
    · obtain ⟨w, q1, q2⟩ := q
      rcases List.mem_append.mp q1 with q1 | q1
      · exact Or.inl ⟨w, q1, q2⟩
      · rw [List.mem_singleton.mp q1] at q2
        exact Or.inr ⟨Nat.zero_le _, q2⟩
theorem gSM {e : Evg} (ho : EnvOk e) {s : Nat} (hs : s < 4) {x : Nat → Int32} : ∀ (d R : Nat) (pre : List Nat) (μ : St) (M : Nat) (a : List (List Nat)), HoldM e pre μ → SetM e.n 9 pre M → pre.length + d = e.n → d ≤ R → WM e a μ → a.length + 5 ^ d < 2 ^ 30 → (∀ j, j < e.n → μ.1 18 (40 * s + j) = x j) → ∃ μ', X10_seeksWays (X10_seeksWays_K R) (nI s) (nI M) (nI pre.length) (dgI pre) μ = some μ' ∧ HoldM e pre μ' ∧ WM e (gS e x d pre a) μ' ∧ EM μ μ' := by
  have hn := ho.1
  intro d
  induction d with
  | zero =>
    intro R pre μ M a h hM hd hR hW hB hx
    exact noteM ho h (by omega) hM (by simpa using hB) hW (nI s)
  | succ d ih =>
    intro R pre μ M a h hM hd hR hW hB hx
    obtain ⟨R', rfl⟩ : ∃ R', R = R' + 1 := ⟨R - 1, by omega⟩
    have hl := h.2.1.len
    have h9 : 9 ∉ pre := fun q => by have := h.2.1.2 9 q; omega
    have loop : ∀ (c i F : Nat) (μ : St) (a : List (List Nat)), i + c = e.n → c < F → HoldM e pre μ → WM e a μ → a.length + c * 5 ^ d < 2 ^ 30 → (∀ j, j < e.n → μ.1 18 (40 * s + j) = x j) → ∃ μ', X10_seeksWays_b73 (X10_seeksWays_K (R' + 1)) F (nI s) (nI M) (nI pre.length) (dgI pre) (nI i) μ = some μ' ∧ HoldM e pre μ' ∧ WM e (lpF (fun g a => if g ∈ pre then a else if wmt e (g :: pre) = x pre.length then gS e x d (g :: pre) a else a) c i a) μ' ∧ EM μ μ' := by
      intro c
      induction c with
      | zero =>
        intro i F μ a hi hF h hW hB hx
        obtain ⟨F', rfl⟩ : ∃ F', F = F' + 1 := ⟨F - 1, by omega⟩
        rw [X10_seeksWays_b73, h.1.1, if_pos (show nI e.n ≤ nI i by rw [nI_leI (by omega) (by omega)]; omega)]
        exact ⟨μ, rfl, h, hW, EM.refl μ⟩
      | succ c ihc =>
        intro i F μ a hi hF h hW hB hx
        obtain ⟨F', rfl⟩ : ∃ F', F = F' + 1 := ⟨F - 1, by omega⟩
        have h5 : (c + 1) * 5 ^ d = c * 5 ^ d + 5 ^ d := Nat.succ_mul _ _
        have hp : 0 < 5 ^ d := Nat.pow_pos (by decide)
        rw [X10_seeksWays_b73, h.1.1, if_neg (show ¬ nI e.n ≤ nI i by rw [nI_leI (by omega) (by omega)]; omega), nI_1, nI_1]
        unfold lpF
        by_cases c2 : i ∈ pre
        · rw [if_neg (fun q => by have := (hM.bit (show i < 5 by omega)).mp q; exact this.2.2 c2), if_pos c2]
          exact ihc (i + 1) F' μ a (by omega) (by omega) h hW (by omega) hx
        · rw [if_pos ((hM.bit (show i < 5 by omega)).mpr ⟨by omega, by omega, c2⟩), if_neg c2]
          obtain ⟨μ1, a1, a2, a3⟩ := comes_eq ho h (g := i) (by omega) c2
          obtain ⟨M', m1, m2⟩ := hM.take (show i < 5 by omega)
          have hl1 := a2.2.1.len
          simp only [List.length_cons] at hl1
          have hw := a2.2.2.w
          simp only [List.length_cons] at hw
          have fx : ∀ μ' : St, EM μ μ' → ∀ j, j < e.n → μ'.1 18 (40 * s + j) = x j := fun μ' q j hj => (q _ _ rfl).trans (hx j hj)
          have W1 : WM e a μ1 := hW.keep (fun y hy => a3 _ _ (by decide) (by omega)) (fun y => a3 _ _ (by decide) (by omega))
          rw [a1, Option.bind_some, ix40, if_neg (show ¬ ob (nI (pre.length + 1)) 6 by rw [ob_iff (by decide), tiI (by omega)]; omega), if_neg (show ¬ ob (nI (40 * s + pre.length)) 160 by rw [ob_iff (by decide), tiI (by omega)]; omega), tnI (by omega), tnI (by omega), hw, fx μ1 a3.em _ (by omega)]
          by_cases c3 : wmt e (i :: pre) = x pre.length
          · rw [if_pos c3, if_pos c3, m1, show (10 : Int32) * dgI pre + nI i + 1 = dgI (i :: pre) by rw [Int32.mul_comm]; rfl]
            obtain ⟨μ2, b1', b2, b3, b4⟩ := ih R' (i :: pre) μ1 M' a a2 m2 (by simp only [List.length_cons]; omega) (by omega) W1 (by omega) (fx μ1 a3.em)
            have x3 : EM μ μ2 := a3.em.trans b4
            have hlen := gS_len (e := e) (x := x) hn d (i :: pre) a
            obtain ⟨μ4, d1, d2, d3, d4⟩ := ihc (i + 1) F' μ2 _ (by omega) (by omega) b2.tail b3 (by omega) (fx μ2 x3)
            refine ⟨μ4, ?_, d2, d3, x3.trans d4⟩
            rw [show X10_seeksWays_K (R' + 1) (nI s) (nI M') (nI (pre.length + 1)) (dgI (i :: pre)) μ1 = some μ2 from b1', Option.bind_some]
            exact d1
          · rw [if_neg c3, if_neg c3]
            obtain ⟨μ4, d1, d2, d3, d4⟩ := ihc (i + 1) F' μ1 a (by omega) (by omega) a2.tail W1 (by omega) (fx μ1 a3.em)
            exact ⟨μ4, d1, d2, d3, a3.em.trans d4⟩
    have hB' : a.length + e.n * 5 ^ d < 2 ^ 30 := by
      have h5 : 5 ^ (d + 1) = 5 * 5 ^ d := by rw [Nat.pow_succ, Nat.mul_comm]
      have h6 : e.n * 5 ^ d ≤ 5 * 5 ^ d := Nat.mul_le_mul_right _ hn
      omega
    unfold X10_seeksWays
    rw [if_neg (fun q => absurd ((hM.zero hn h.2.1 h9 (by rw [all9 hn]; exact hd)).mp q) (by omega))]
    exact loop e.n 0 FU μ a (by omega) (by rw [FU_eq]; omega) h hW hB' hx
theorem one_bit0 : ∀ C, C < 32 → ∀ p, p < 5 → (C.testBit p = false ∨ (¬ nI C = 0 ∧ ((nI C &&& (nI C - 1) = 0) ↔ ∀ q, q < 5 → (C.testBit q = false ∨ q = p)))) := by decide +kernel
theorem one_bit (C : Nat) (hC : C < 32) (p : Nat) (hp : p < 5) (h : C.testBit p = true) : (¬ nI C = 0 ∧ ((nI C &&& (nI C - 1) = 0) ↔ ∀ q, q < 5 → C.testBit q = true → q = p)) := by
  rcases one_bit0 C hC p hp with h1 | ⟨h1, h2⟩
  · rw [h] at h1
    cases h1
  · refine ⟨h1, h2.trans ⟨fun a q q1 q2 => (a q q1).elim (fun z => by rw [q2] at z; cases z) id, fun a q q1 => ?_⟩⟩
    cases z : C.testBit q with
    | false => exact Or.inl rfl
    | true => exact Or.inr (a q q1 z)
theorem shl1 : ∀ B, B < 32 → ∀ i, i < 5 → nI B ||| ((1 : Int32) <<< (nI i &&& 31)) = nI (B ||| 2 ^ i) ∧ B ||| 2 ^ i < 32 ∧ ∀ h, h < 5 → (B ||| 2 ^ i).testBit h = (decide (h = i) || B.testBit h) := bit_set
theorem sure4 {n : Nat} (hn : n ≤ 5) {Q : Nat → Nat → Prop} {S : Nat → Prop} {μ : St} (h11 : μ.1 0 11 = nI n) (hC : CM n Q μ) (hS : ∀ g, g < n → (S g ↔ (∃ p, p < 5 ∧ Q g p ∧ ∀ q, q < 5 → Q g q → q = p))) : ∀ (c i F B : Nat), i + c = n → c < F → B < 32 → (∀ g, g < 5 → (B.testBit g = true ↔ (g < i ∧ S g))) → ∃ B', B' < 32 ∧ X10_sure_b4 F (nI B) (nI i) μ = some (nI B') ∧ ∀ g, g < 5 → (B'.testBit g = true ↔ (g < n ∧ S g)) := by
  intro c
  induction c with
  | zero =>
    intro i F B hi hF hB hb
    obtain ⟨F', rfl⟩ : ∃ F', F = F' + 1 := ⟨F - 1, by omega⟩
    have : i = n := by omega
    subst this
    rw [X10_sure_b4, h11, if_pos (show nI i ≤ nI i by rw [nI_leI (by omega) (by omega)]; omega)]
    exact ⟨B, hB, rfl, hb⟩
  | succ c ih =>
    intro i F B hi hF hB hb
    obtain ⟨F', rfl⟩ : ∃ F', F = F' + 1 := ⟨F - 1, by omega⟩
    have hob : ¬ ob (nI i) 5 := by rw [ob_iff (by decide), tiI (by omega)]; omega
    obtain ⟨C, c1, c2, c3⟩ := hC i (by omega)
    have no : ¬ S i → ∃ B', B' < 32 ∧ X10_sure_b45 (X10_sure_b4 F') (nI i) 0 (nI B) μ = some (nI B') ∧ ∀ g, g < 5 → (B'.testBit g = true ↔ (g < n ∧ S g)) := fun hs => by
      unfold X10_sure_b45
      rw [shl0 i (by omega), or0, nI_1]
      refine ih (i + 1) F' B (by omega) (by omega) hB (fun g hg => ?_)
      rw [hb g hg]
      refine ⟨fun q => ⟨by omega, q.2⟩, fun q => ⟨?_, q.2⟩⟩
      by_cases z : g = i
      · subst z
        exact absurd q.2 hs
      · omega
    have yes : S i → ∃ B', B' < 32 ∧ X10_sure_b45 (X10_sure_b4 F') (nI i) 1 (nI B) μ = some (nI B') ∧ ∀ g, g < 5 → (B'.testBit g = true ↔ (g < n ∧ S g)) := fun hs => by
      obtain ⟨s1, s2, s3⟩ := shl1 B hB i (by omega)
      unfold X10_sure_b45
      rw [s1, nI_1]
      refine ih (i + 1) F' _ (by omega) (by omega) s2 (fun g hg => ?_)
      rw [s3 g hg]
      refine ⟨fun q => ?_, fun q => ?_⟩
      · by_cases z : g = i
        · subst z
          exact ⟨by omega, hs⟩
        · have : B.testBit g = true := by simpa [z] using q
          have := (hb g hg).mp this
          exact ⟨by omega, this.2⟩
      · by_cases z : g = i
        · simp [z]
        · have := (hb g hg).mpr ⟨by omega, q.2⟩
          simp [this]
    rw [X10_sure_b4, h11, if_neg (show ¬ nI n ≤ nI i by rw [nI_leI (by omega) (by omega)]; omega), if_neg hob, if_neg hob, if_neg hob, tnI (by omega), c2]
    by_cases z : ∃ p, p < 5 ∧ C.testBit p = true
    · obtain ⟨p, p1, p2⟩ := z
      obtain ⟨o1, o2⟩ := one_bit C c1 p p1 p2
      rw [if_neg o1]
      by_cases y : nI C &&& (nI C - 1) = 0
      · rw [if_pos y]
        refine yes ((hS i (by omega)).mpr ⟨p, p1, (c3 p p1).mp p2, fun q q1 q2 => o2.mp y q q1 ((c3 q q1).mpr q2)⟩)
      · rw [if_neg y]
        refine no (fun hs => y (o2.mpr (fun q q1 q2 => ?_)))
        obtain ⟨p', t1, t2, t3⟩ := (hS i (by omega)).mp hs
        rw [t3 q q1 ((c3 q q1).mp q2), t3 p p1 ((c3 p p1).mp p2)]
    · have hz : C = 0 := (mask0 C c1).mp (fun g hg => by
        cases h : C.testBit g with
        | false => rfl
        | true => exact absurd ⟨g, hg, h⟩ z)
      rw [if_pos (show nI C = 0 by rw [hz]; rfl)]
      refine no (fun hs => ?_)
      obtain ⟨p', t1, t2, t3⟩ := (hS i (by omega)).mp hs
      exact z ⟨p', t1, (c3 p' t1).mpr t2⟩
theorem bits_ext0 : ∀ M, M < 32 → ∀ B, B < 32 → (M = B ∨ ¬ ∀ g, g < 5 → M.testBit g = B.testBit g) := by decide +kernel
theorem bits_ext (M : Nat) (hM : M < 32) (B : Nat) (hB : B < 32) (h : ∀ g, g < 5 → M.testBit g = B.testBit g) : M = B := (bits_ext0 M hM B hB).elim id (fun q => absurd h q)
/-- who is sure, on both sides -/
theorem sure_eq {e : Evg} (ho : EnvOk e) {a : List (List Nat)} {σ μ : St} (hf : ∀ w, w ∈ a → FullP e w) (hX : WX e a σ) (hM : WM e a μ) (h11 : μ.1 0 11 = nI e.n) : X10_sure μ = some (σ.1 35 6) := by
  have hn := ho.1
  obtain ⟨w1, w2, w3, w4⟩ := hM
  cases a with
  | nil =>
    obtain ⟨B, b1', b2, b3⟩ := sure4 hn (Q := QW e []) (S := fun _ => False) h11 w4 (fun g hg => ⟨fun q => q.elim, fun q => by
      obtain ⟨p, q1, ⟨w, q2, q3⟩, q4⟩ := q
      exact absurd q2 List.not_mem_nil⟩) e.n 0 FU 0 (by omega) (by rw [FU_eq]; omega) (by decide) (fun g hg => by simp)
    have hz : B = 0 := (mask0 B b1').mp (fun g hg => by
      cases h : B.testBit g with
      | false => rfl
      | true => exact ((b3 g hg).mp h).2.elim)
    unfold X10_sure
    rw [show X10_sure_b4 FU 0 0 μ = _ from b2, hz, hX.2.2]
    rfl
  | cons v rest =>
    obtain ⟨v0, v1, v2, v3, M, m1, m2, m3⟩ := hX
    have at1 : ∀ g, g < e.n → ∃ p, p < e.n ∧ plc v p = g := fun g hg => by
      have hgm : g ∈ v := by
        refine Decidable.byContradiction fun q => ?_
        have := pigeon e.n (g :: v) (List.nodup_cons.mpr ⟨q, v0.1.1⟩) (fun y hy => by
          rcases List.mem_cons.mp hy with rfl | hy
          · exact hg
          · exact v0.1.2 y hy)
        rw [List.length_cons, v0.2] at this
        omega
      obtain ⟨p, p1, p2⟩ := plc_ex v g hgm
      exact ⟨p, by rw [v0.2] at p1; exact p1, p2⟩
    obtain ⟨B, b1', b2, b3⟩ := sure4 hn (Q := QW e (v :: rest)) (S := fun g => ∀ w, w ∈ rest → ∀ p, p < e.n → plc w p = g → plc v p = g) h11 w4 (fun g hg => by
      obtain ⟨p1, t1, t2⟩ := at1 g hg
      refine ⟨fun q => ⟨p1, by omega, ⟨v, List.mem_cons_self, t1, t2⟩, fun q' h1 h2 => ?_⟩, fun q w hw p hp hg' => ?_⟩
      · obtain ⟨w, z1, z2, z3⟩ := h2
        have z4 : plc v q' = g := by
          rcases List.mem_cons.mp z1 with rfl | z1
          · exact z3
          · exact q w z1 q' z2 z3
        exact plc_inj v v0.1.1 q' p1 (by rw [v0.2]; exact z2) (by rw [v0.2]; exact t1) (z4.trans t2.symm)
      · obtain ⟨p', y1, y2, y3⟩ := q
        have u1 := y3 p (by omega) ⟨w, List.mem_cons_of_mem _ hw, hp, hg'⟩
        have u2 := y3 p1 (by omega) ⟨v, List.mem_cons_self, t1, t2⟩
        rw [u1, ← u2]
        exact t2) e.n 0 FU 0 (by omega) (by rw [FU_eq]; omega) (by decide) (fun g hg => by simp)
    have hB : B = M := bits_ext B b1' M m1 (fun g hg => by
      rw [Bool.eq_iff_iff, b3 g hg, m3 g hg])
    unfold X10_sure
    rw [show X10_sure_b4 FU 0 0 μ = _ from b2, hB, m2]
