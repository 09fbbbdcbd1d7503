theorem nmM_eq {e : Evg} {g : Nat} {pre : List Nat} {w : Int32} {μ : St} (h : HeardM e g pre w μ) : nmM μ = nms e g pre w := by
  obtain ⟨h0, h1, h2, h3, h4, h5⟩ := h
  funext i
  unfold nmM
  by_cases c : i < 6
  · rw [if_pos c]
    rcases (show i = 0 ∨ i = 1 ∨ i = 2 ∨ i = 3 ∨ i = 4 ∨ i = 5 by omega) with rfl | rfl | rfl | rfl | rfl | rfl
    · exact h0
    · exact h1
    · exact h2
    · exact h3
    · exact h4
    · exact h5
  · rw [if_neg c]
    obtain ⟨j, rfl⟩ : ∃ j, i = j + 6 := ⟨i - 6, by omega⟩
    rfl
theorem HeardM.keep {e : Evg} {g : Nat} {pre : List Nat} {w : Int32} {μ μ' : St} (h : HeardM e g pre w μ) (k : ∀ b, 12 ≤ b → b ≤ 17 → μ'.1 0 b = μ.1 0 b) : HeardM e g pre w μ' := by
  unfold HeardM at h ⊢
  rw [k _ (by decide) (by decide), k _ (by decide) (by decide), k _ (by decide) (by decide), k _ (by decide) (by decide), k _ (by decide) (by decide), k _ (by decide) (by decide)]
  exact h
theorem max0 (x : Int32) (μ : St) : X10_coolsOf_b76 x μ = some (if 0 < x then x else 0, μ) := by
  unfold X10_coolsOf_b76
  simp only [Int32.lt_iff_toInt_lt, Int32.le_iff_toInt_le, t0]
  by_cases c : 0 ≤ x.toInt
  · rw [if_pos c]
    by_cases c2 : 0 < x.toInt
    · rw [if_pos c2]
    · rw [if_neg c2, Int32.toInt_inj.mp (show x.toInt = (0 : Int32).toInt by rw [t0]; omega)]
  · rw [if_neg c, if_neg (by omega)]
theorem max3 (x : Int32) (μ : St) : (if 3 ≤ x then some (x, μ) else some (3, μ)) = some (if 3 < x then x else 3, μ) := by
  simp only [Int32.lt_iff_toInt_lt, Int32.le_iff_toInt_le, show (3 : Int32).toInt = 3 by decide]
  by_cases c : 3 ≤ x.toInt
  · rw [if_pos c]
    by_cases c2 : 3 < x.toInt
    · rw [if_pos c2]
    · rw [if_neg c2, Int32.toInt_inj.mp (show x.toInt = (3 : Int32).toInt by rw [show (3 : Int32).toInt = 3 by decide]; omega)]
  · rw [if_neg c, if_neg (by omega)]
theorem tellM {e : Evg} {g : Nat} {pre : List Nat} {w : Int32} {μ : St} (hE : EnvM e μ) (h : HeardM e g pre w μ) {p : Nat} (hp : p < 3) : ∃ μ', X10_read (μ.1 0 4) (nI p) μ = some (e.ev p (nms e g pre w), μ') ∧ ∀ a b, ¬ (a = 0 ∧ 18 ≤ b ∧ b ≤ 26) → μ'.1 a b = μ.1 a b := by
  obtain ⟨μ', a1, a2⟩ := hE.2.2.2.2.2.2 μ (fun _ _ => rfl) rfl p hp
  rw [hE.2.2.2.2.1, a1, nmM_eq h]
  exact ⟨μ', rfl, a2⟩
def agI (a : Bool) : Int32 := if a then 1 else 0
theorem coolsM {e : Evg} (hn : e.n ≤ 5) {g : Nat} (hg : g < e.n) {pre : List Nat} {w : Int32} {μ : St} (hE : EnvM e μ) (h : HeardM e g pre w μ) : ∃ μ', X10_coolsOf (nI g) (agI (agn e g pre)) μ = some (colW e g pre w, μ') ∧ ∀ a b, ¬ (a = 0 ∧ 18 ≤ b ∧ b ≤ 26) → μ'.1 a b = μ.1 a b := by
  obtain ⟨μ', a1, a2⟩ := tellM hE h (p := 1) (by decide)
  refine ⟨μ', ?_, a2⟩
  unfold X10_coolsOf
  obtain ⟨e1, e2, e3, e4⟩ := hE.2.2.2.2.2.1 g hg
  rw [if_neg (show ¬ ob (nI g) 5 by rw [ob_iff (by decide), tiI (by omega)]; omega), show (1 : Int32) = nI 1 from rfl, a1, Option.bind_some, withinM _ _ _ (by decide), Option.bind_some, show (3 : Int32) * nI g = nI (3 * g) from pk_mul 3 g, if_neg (show ¬ ob (nI (3 * g)) 15 by rw [ob_iff (by decide), tiI (by omega)]; omega), tnI (by omega), tnI (by omega), a2 _ _ (by omega), e1, e2]
  unfold X10_coolsOf_b65 colW colP
  rw [max0, max0, max0, max0]
  by_cases k2 : e.K g = 2
  · rw [if_pos k2, if_pos k2]
  · rw [if_neg k2, if_neg k2]
    by_cases k4 : e.K g = 4
    · rw [if_pos k4, if_neg (show ¬ e.K g = 3 by rw [k4]; decide), if_pos k4]
    · rw [if_neg k4]
      by_cases k3 : e.K g = 3
      · rw [if_pos k3, if_pos k3, if_neg (show ¬ e.K g = 5 by rw [k3]; decide)]
        unfold agI
        by_cases c : agn e g pre = true
        · rw [if_pos c, if_pos c, if_neg (show ¬ (1 : Int32) = 0 by decide)]
        · rw [if_neg c, if_neg c, if_pos rfl]
      · rw [if_neg k3, if_neg k3, if_neg k4]
        by_cases k5 : e.K g = 5
        · rw [if_pos k5, if_pos k5]; rfl
        · rw [if_neg k5, if_neg k5]
theorem warmsM {e : Evg} (hn : e.n ≤ 5) {g : Nat} (hg : g < e.n) {pre : List Nat} {w : Int32} {μ : St} (hE : EnvM e μ) (h : HeardM e g pre w μ) : ∃ μ', X10_warmsOf (nI g) (agI (agn e g pre)) μ = some (wrmW e g pre w, μ') ∧ ∀ a b, ¬ (a = 0 ∧ 18 ≤ b ∧ b ≤ 26) → μ'.1 a b = μ.1 a b := by
  obtain ⟨μ', a1, a2⟩ := tellM hE h (p := 0) (by decide)
  refine ⟨μ', ?_, a2⟩
  unfold X10_warmsOf
  obtain ⟨e1, e2, e3, e4⟩ := hE.2.2.2.2.2.1 g hg
  rw [if_neg (show ¬ ob (nI g) 5 by rw [ob_iff (by decide), tiI (by omega)]; omega), show X10_read (μ.1 0 4) 0 μ = _ from a1, Option.bind_some, withinM _ _ _ (by decide), Option.bind_some, show (3 : Int32) * nI g = nI (3 * g) from pk_mul 3 g, show nI (3 * g) + 2 = nI (3 * g + 2) from nI_add _ _, if_neg (show ¬ ob (nI (3 * g + 2)) 15 by rw [ob_iff (by decide), tiI (by omega)]; omega), tnI (by omega), tnI (by omega), a2 _ _ (by omega), e1]
  have go : ∀ s : Int32, X10_warmsOf_b47 (nI g) (agI (agn e g pre)) (e.K g) s μ' = some (wrm1 (e.K g) (e.N g) (agn e g pre) e.odd s, μ') := fun s => by
    have o := hE.2.2.2.1
    unfold X10_warmsOf_b47 X10_warmsOf_b59 wrm1
    rw [show (3 : Int32) * nI g = nI (3 * g) from pk_mul 3 g, if_neg (show ¬ ob (nI (3 * g)) 15 by rw [ob_iff (by decide), tiI (by omega)]; omega), tnI (by omega), a2 6 _ (by omega), e2, max3, show (2 : Int32).toNatClampNeg = 2 from rfl, a2 4 2 (by omega)]
    by_cases k2 : e.K g = 2
    · rw [if_pos k2, if_pos k2, if_neg (show ¬ e.K g = 1 by rw [k2]; decide), if_pos k2]
    · rw [if_neg k2, if_neg k2]
      by_cases k4 : e.K g = 4
      · rw [if_pos k4, if_neg (show ¬ e.K g = 1 by rw [k4]; decide), if_neg k2, if_neg (show ¬ e.K g = 3 by rw [k4]; decide), if_pos k4]
        by_cases c : e.odd = 0
        · rw [if_neg (fun q => o.mp q c), if_pos c]
        · rw [if_pos (o.mpr c), if_neg c]
      · rw [if_neg k4, if_neg k4]
        by_cases k1 : e.K g = 1
        · rw [if_pos k1, if_pos k1]
        · rw [if_neg k1, if_neg k1]
          by_cases k3 : e.K g = 3
          · rw [if_pos k3, if_neg k2, if_pos k3]
            unfold agI
            by_cases c : agn e g pre = true
            · rw [if_pos c, if_pos c, if_neg (show ¬ (1 : Int32) = 0 by decide)]
            · rw [if_neg c, if_neg c, if_pos rfl]
          · rw [if_neg k3, if_neg k2, if_neg k3]
            by_cases k5 : e.K g = 5
            · rw [if_pos k5, if_pos k5]
            · rw [if_neg k5, if_neg k5]
  rw [go, go]
  unfold wrmW wrmP
  by_cases c : e.L g = 0
  · rw [if_neg (fun q => (e4.mp q) c), if_pos c]
  · rw [if_pos (e4.mpr c), if_neg c]
/-- what coming may change -/
def EMu (μ μ' : St) : Prop := ∀ a b, ¬ (7 ≤ a ∧ a ≤ 10) → ¬ (a = 0 ∧ 12 ≤ b ∧ b ≤ 26) → μ'.1 a b = μ.1 a b
theorem EMu.refl (μ : St) : EMu μ μ := fun _ _ _ _ => rfl
theorem EMu.trans {a b c : St} (h1 : EMu a b) (h2 : EMu b c) : EMu a c := fun i j h k => (h2 i j h k).trans (h1 i j h k)
theorem sc_m {a b : Nat} (h : scM a b = false) : ¬ (7 ≤ a ∧ a ≤ 10) ∧ ¬ (a = 0 ∧ 12 ≤ b ∧ b ≤ 26) := by
  refine ⟨fun q => ?_, fun q => ?_⟩
  · rcases (show a = 7 ∨ a = 8 ∨ a = 9 ∨ a = 10 by omega) with rfl | rfl | rfl | rfl <;> exact Bool.noConfusion (show true = false from h)
  · obtain ⟨rfl, q1, q2⟩ := q
    rcases (show b = 12 ∨ b = 13 ∨ b = 14 ∨ b = 15 ∨ b = 16 ∨ b = 17 ∨ b = 18 ∨ b = 19 ∨ b = 20 ∨ b = 21 ∨ b = 22 ∨ b = 23 ∨ b = 24 ∨ b = 25 ∨ b = 26 by omega) with rfl | rfl | rfl | rfl | rfl | rfl | rfl | rfl | rfl | rfl | rfl | rfl | rfl | rfl | rfl <;> exact Bool.noConfusion (show true = false from h)
theorem EMu.em {μ μ' : St} (h : EMu μ μ') : EM μ μ' := fun a b hs => h a b (sc_m hs).1 (sc_m hs).2
theorem comes163 {μ : St} {m : Nat} (hm : m < 5) (v : Int32) : X10_comes_b163 (nI m) v μ = some (up μ 8 (m + 1) v) := by
  unfold X10_comes_b163
  rw [nI_1, if_neg (show ¬ ob (nI (m + 1)) 6 by rw [ob_iff (by decide), tiI (by omega)]; omega), tnI (by omega)]
theorem comes142 {μ : St} {m : Nat} (hm : m < 5) {s : Int32} (hs : b1 s) (v : Int32) : X10_comes_b142 (nI m) v s (nI m) μ = some (up (up μ 10 m s) 8 (m + 1) (fin s v)) := by
  unfold X10_comes_b142 X10_comes_b161
  have hob : ¬ ob (nI m) 5 := by rw [ob_iff (by decide), tiI (by omega)]; omega
  rw [nar_b hs, if_neg hob, if_neg hob, tnI (by omega), up_eq, comes163 hm, comes163 hm]
  unfold fin
  rcases hs with rfl | rfl
  · rw [if_pos rfl, if_pos rfl]
  · rw [if_neg (by decide), if_neg (by decide)]
theorem comes_eq {e : Evg} {pre : List Nat} {μ : St} (ho : EnvOk e) (h : HoldM e pre μ) {g : Nat} (hg : g < e.n) (hp : g ∉ pre) : ∃ μ', X10_comes (nI g) (nI pre.length) μ = some μ' ∧ HoldM e (g :: pre) μ' ∧ EMu μ μ' := by
  obtain ⟨hE, hO, hc⟩ := id h
  have hO' : OkP e (g :: pre) := ⟨List.nodup_cons.mpr ⟨hp, hO.1⟩, fun x hx => by
    rcases List.mem_cons.mp hx with rfl | hx
    · exact hg
    · exact hO.2 x hx⟩
  have hn := ho.1
  have hlen : pre.length < 5 := by have := hO'.len; simp only [List.length_cons] at this; omega
  have hob : ¬ ob (nI pre.length) 5 := by rw [ob_iff (by decide), tiI (by omega)]; omega
  have x0 : EMu μ (up μ 7 pre.length (nI g)) := fun a b q _ => up_lo (by omega)
  have E0 := hE.keep x0.em
  have c0 : CellsM e (up μ 7 pre.length (nI g)) pre := hc.keep (fun x y _ hy => up_pl (by omega)) (fun y _ => up_lo (by decide))
  obtain ⟨μ1, a1, a2, a3⟩ := looks_eq hn hO hg E0 c0 hlen
  have x1 : EMu (up μ 7 pre.length (nI g)) μ1 := fun a b _ q => a2 a b (by omega)
  have E1 := E0.keep x1.em
  obtain ⟨μ2, b1', b2⟩ := coolsM hn hg E1 a3
  have x2 : EMu μ1 μ2 := fun a b _ q => b2 a b (by omega)
  have E2 := E1.keep x2.em
  have a4 := a3.keep (fun b p q => b2 0 b (by omega))
  obtain ⟨μ3, c1, c2⟩ := warmsM hn hg E2 a4
  have x3 : EMu μ2 μ3 := fun a b _ q => c2 a b (by omega)
  have E3 := E2.keep x3.em
  have a5 := a4.keep (fun b p q => c2 0 b (by omega))
  have hag : X10_comes (nI g) (nI pre.length) μ = X10_comes_b33 (nI g) (nI pre.length) (agI (agn e g pre)) μ1 := by
    unfold X10_comes
    rw [if_neg hob, tnI (by omega), a1, Option.bind_some, a3.1, a3.2.1]
    unfold agn agI
    cases hpre : pre with
    | nil =>
      rw [if_pos (show nI ([] : List Nat).length ≤ 0 by decide), if_neg (show ¬ decide (lastT e [] = e.T g) = true from fun q => by
        have q1 : (8 : Int32) = e.T g := of_decide_eq_true q
        have q2 := (ho.2.2 g hg).1
        rw [← q1] at q2
        unfold rng at q2
        rw [show (8 : Int32).toInt = 8 by decide] at q2
        omega)]
    | cons x y =>
      rw [if_neg (show ¬ nI (x :: y).length ≤ 0 by rw [show (0 : Int32) = nI 0 from rfl, nI_leI (by rw [← hpre]; omega) (by decide)]; simp)]
      by_cases c : lastT e (x :: y) = e.T g
      · rw [if_pos c, if_pos (decide_eq_true c)]
      · rw [if_neg c, if_neg (fun q => c (of_decide_eq_true q))]
  have hf3 : ∀ a b, ¬ (a = 0 ∧ 12 ≤ b ∧ b ≤ 26) → μ3.1 a b = (up μ 7 pre.length (nI g)).1 a b := fun a b q => by
    rw [c2 a b (by omega), b2 a b (by omega), a2 a b (by omega)]
  have hc3 : CellsM e μ3 pre := c0.keep (fun x y q hy => hf3 x y (by omega)) (fun y _ => hf3 8 y (by omega))
  have key : X10_comes (nI g) (nI pre.length) μ = if nw e g pre < e.lim then X10_comes_b97 (nI pre.length) (nw e g pre) 0 (nI pre.length) μ3 else X10_comes_b97 (nI pre.length) (nw e g pre) 1 (nI pre.length) μ3 := by
    rw [hag]
    unfold X10_comes_b33
    rw [b1', Option.bind_some, c1, Option.bind_some, if_neg (show ¬ ob (nI pre.length) 6 by rw [ob_iff (by decide), tiI (by omega)]; omega), tnI (by omega), hc3.w, withinM _ _ _ (by decide), Option.bind_some, withinM _ _ _ (by decide), Option.bind_some, show (1 : Int32).toNatClampNeg = 1 from rfl, E3.2.2.1]
    rfl
  rw [key]
  have last : ∀ (τ : St) (b s : Int32), b = bo e g pre → s = sc e g pre → τ.1 7 pre.length = nI g → (∀ x y, ¬ (7 ≤ x ∧ x ≤ 10 ∧ pre.length ≤ y) → ¬ (x = 0 ∧ 12 ≤ y ∧ y ≤ 26) → τ.1 x y = μ.1 x y) → (∀ y, y < pre.length + 1 → τ.1 8 y = μ.1 8 y) → τ.1 9 pre.length = b → τ.1 10 pre.length = s → HoldM e (g :: pre) (up τ 8 (pre.length + 1) (fin s (nw e g pre))) ∧ EMu μ (up τ 8 (pre.length + 1) (fin s (nw e g pre))) := fun τ b s eb es h7 hτ h8 h9 h10 => by
    have hx : EMu μ (up τ 8 (pre.length + 1) (fin s (nw e g pre))) := fun x y q1 q2 => by
      rw [up_lo (by omega)]
      exact hτ x y (by omega) q2
    refine ⟨⟨hE.keep hx.em, hO', ?_, ?_, ?_, ?_, hc.keep (fun x y p hy => ?_) (fun y hy => ?_)⟩, hx⟩
    · rw [up_lo (by decide), h7]
    · rw [up_eq, es, wmt_cons]
    · rw [up_lo (by decide), h9, eb]
    · rw [up_lo (by decide), h10, es]
    · rw [up_lo (by omega)]
      exact hτ x y (by omega) (by omega)
    · rw [up_pl (by omega)]
      exact h8 y hy
  by_cases c : nw e g pre < e.lim
  · rw [if_pos c]
    unfold X10_comes_b97
    rw [nar_b (Or.inl rfl), if_neg hob, if_neg hob, if_neg hob, tnI (by omega), up_lo (show (9 : Nat) ≠ 10 by decide), up_eq, if_pos rfl, comes163 hlen]
    have L := last (up (up μ3 9 pre.length 0) 10 pre.length 0) 0 0 (by unfold bo boilV; rw [if_pos c]) (by unfold sc scrV; rw [if_pos c]) (by rw [up_lo (by decide), up_lo (by decide), hf3 _ _ (by omega), up_eq]) (fun x y q1 q2 => by
      rw [up_get, if_neg (by omega), up_get, if_neg (by omega), hf3 _ _ q2, up_get, if_neg (by omega)]) (fun y hy => by rw [up_lo (by decide), up_lo (by decide), hf3 _ _ (by omega), up_lo (by decide)]) (by rw [up_lo (by decide), up_eq]) up_eq
    exact ⟨_, rfl, L.1, L.2⟩
  · rw [if_neg c]
    unfold X10_comes_b97
    rw [nar_b (Or.inr rfl), nar_b (Or.inl rfl), if_neg hob, if_neg hob, if_neg hob, tnI (by omega), up_lo (show (9 : Nat) ≠ 10 by decide), up_eq, if_neg (show ¬ (1 : Int32) = 0 by decide)]
    have x5 : EMu μ3 (up (up (up μ3 9 pre.length 1) 10 pre.length 0) 0 14 (nw e g pre)) := fun x y q1 q2 => by
      rw [up_get, if_neg (by omega), up_lo (by omega), up_lo (by omega)]
    have E5 := E3.keep x5.em
    have H5 : HeardM e g pre (nw e g pre) (up (up (up μ3 9 pre.length 1) 10 pre.length 0) 0 14 (nw e g pre)) := by
      obtain ⟨z0, z1, z2, z3, z4, z5⟩ := a5
      exact ⟨z0, z1, up_eq, z3, z4, z5⟩
    obtain ⟨μ6, d1, d2⟩ := tellM E5 H5 (p := 2) (by decide)
    rw [show X10_read ((up (up (up μ3 9 pre.length 1) 10 pre.length 0) 0 14 (nw e g pre)).1 0 4) 2 (up (up (up μ3 9 pre.length 1) 10 pre.length 0) 0 14 (nw e g pre)) = _ from d1, Option.bind_some, comes142 hlen (Or.inl rfl), comes142 hlen (Or.inr rfl)]
    have fin6 : ∀ s : Int32, s = sc e g pre → HoldM e (g :: pre) (up (up μ6 10 pre.length s) 8 (pre.length + 1) (fin s (nw e g pre))) ∧ EMu μ (up (up μ6 10 pre.length s) 8 (pre.length + 1) (fin s (nw e g pre))) := fun s hs => by
      refine last (up μ6 10 pre.length s) 1 s (by unfold bo boilV; rw [if_neg c]) hs ?_ (fun x y q1 q2 => ?_) (fun y hy => ?_) ?_ up_eq
      · rw [up_lo (by decide), d2 _ _ (by omega), up_lo (by decide), up_lo (by decide), up_lo (by decide), hf3 _ _ (by omega), up_eq]
      · rw [up_get, if_neg (by omega), d2 _ _ (by omega), up_get, if_neg (by omega), up_get, if_neg (by omega), up_get, if_neg (by omega), hf3 _ _ q2, up_get, if_neg (by omega)]
      · rw [up_lo (by decide), d2 _ _ (by omega), up_lo (by decide), up_lo (by decide), up_lo (by decide), hf3 _ _ (by omega), up_lo (by decide)]
      · rw [up_lo (by decide), d2 _ _ (by omega), up_lo (by decide), up_lo (by decide), up_eq]
    by_cases c3 : e.ev 2 (nms e g pre (nw e g pre)) = 0
    · rw [if_pos c3]
      have L := fin6 0 (by unfold sc scrV; rw [if_neg c, if_pos c3])
      exact ⟨_, rfl, L.1, L.2⟩
    · rw [if_neg c3]
      have L := fin6 1 (by unfold sc scrV; rw [if_neg c, if_neg c3])
      exact ⟨_, rfl, L.1, L.2⟩
