/-- all that an evening turns on -/
def Evg : Type := Nat × Nat × Int32 × Int32 × Int32 × (Nat → Int32) × (Nat → Int32) × (Nat → Int32) × (Nat → Int32) × (Nat → Nm → Int32)
def Evg.n (e : Evg) : Nat := e.1
def Evg.r (e : Evg) : Nat := e.2.1
def Evg.w0 (e : Evg) : Int32 := e.2.2.1
def Evg.lim (e : Evg) : Int32 := e.2.2.2.1
def Evg.odd (e : Evg) : Int32 := e.2.2.2.2.1
def Evg.K (e : Evg) : Nat → Int32 := e.2.2.2.2.2.1
def Evg.N (e : Evg) : Nat → Int32 := e.2.2.2.2.2.2.1
def Evg.T (e : Evg) : Nat → Int32 := e.2.2.2.2.2.2.2.1
def Evg.L (e : Evg) : Nat → Int32 := e.2.2.2.2.2.2.2.2.1
def Evg.ev (e : Evg) : Nat → Nm → Int32 := e.2.2.2.2.2.2.2.2.2
def wthn (x lo hi : Int32) : Int32 := if lo < (if x < hi then x else hi) then (if x < hi then x else hi) else lo
theorem withinX (x lo hi : Int32) : X9_within x lo hi = some (wthn x lo hi) := rfl
theorem withinM (x lo hi : Int32) (h : lo ≤ hi) : X10_within x lo hi = some (wthn x lo hi) := by
  unfold X10_within wthn
  rw [Int32.le_iff_toInt_le] at h
  simp only [Int32.lt_iff_toInt_lt, Int32.le_iff_toInt_le]
  by_cases c1 : x.toInt < hi.toInt
  · simp only [if_pos c1]
    by_cases c2 : lo.toInt < x.toInt
    · rw [if_pos (show lo.toInt ≤ x.toInt by omega), if_pos (show x.toInt ≤ hi.toInt by omega), if_pos c2]
    · rw [if_neg c2]
      by_cases c3 : lo.toInt ≤ x.toInt
      · rw [if_pos c3, if_pos (show x.toInt ≤ hi.toInt by omega), Int32.toInt_inj.mp (show x.toInt = lo.toInt by omega)]
      · rw [if_neg c3]
  · simp only [if_neg c1]
    by_cases c3 : lo.toInt < hi.toInt
    · rw [if_pos (show lo.toInt ≤ x.toInt by omega), if_pos c3]
      by_cases c4 : x.toInt ≤ hi.toInt
      · rw [if_pos c4, Int32.toInt_inj.mp (show x.toInt = hi.toInt by omega)]
      · rw [if_neg c4]
    · rw [if_pos (show lo.toInt ≤ x.toInt by omega), if_neg c3]
      by_cases c4 : x.toInt ≤ hi.toInt
      · rw [if_pos c4, Int32.toInt_inj.mp (show x.toInt = lo.toInt by omega)]
      · rw [if_neg c4, Int32.toInt_inj.mp (show hi.toInt = lo.toInt by omega)]
/-- what a guest's remark takes off and puts on -/
def colP (k nb : Int32) (ag : Bool) (v : Int32) : Int32 := if k = 2 then (if 0 < v - 2 then v - 2 else 0) else if k = 3 then (if ag then (if 0 < v + nb then v + nb else 0) else (if 0 < v then v else 0)) else if k = 4 then (if 0 < v - 2 then v - 2 else 0) else if k = 5 then 0 else (if 0 < v then v else 0)
def wrm1 (k nb : Int32) (ag : Bool) (odd : Int32) (s : Int32) : Int32 := if k = 1 then 2 * s else if k = 2 then s + nb else if k = 3 then (if ag then (-2) * s else 2 * s) else if k = 4 then (s + nb) / 2 - (if odd = 0 then 0 else 5) else if k = 5 then (if 3 < s then s else 3) else s
def wrmP (k nb : Int32) (ag : Bool) (odd l : Int32) (v : Int32) : Int32 := wrm1 k nb ag odd (if l = 0 then -v else v)
/-- the topic of the last, how often it was said -/
def lastT (e : Evg) : List Nat → Int32
  | [] => 8
  | g :: _ => e.T g
def saidN (e : Evg) (g : Nat) : List Nat → Nat
  | [] => 0
  | h :: b => (if e.T h = e.T g then 1 else 0) + saidN e g b
/-- the names a text may speak of, the warmth being w -/
def nms (e : Evg) (g : Nat) (pre : List Nat) (w : Int32) : Nm := fun i => match i with
  | 0 => e.T g
  | 1 => lastT e pre
  | 2 => w
  | 3 => e.N g
  | 4 => nI (saidN e g pre)
  | 5 => nI pre.length
  | _ => 0
def agn (e : Evg) (g : Nat) (pre : List Nat) : Bool := lastT e pre = e.T g
def colW (e : Evg) (g : Nat) (pre : List Nat) (w : Int32) : Int32 := colP (e.K g) (e.N g) (agn e g pre) (wthn (e.ev 1 (nms e g pre w)) (-99) 99)
def wrmW (e : Evg) (g : Nat) (pre : List Nat) (w : Int32) : Int32 := wrmP (e.K g) (e.N g) (agn e g pre) e.odd (e.L g) (wthn (e.ev 0 (nms e g pre w)) (-99) 99)
/-- the warmth when the guest has spoken, before a scream -/
def newW (e : Evg) (g : Nat) (pre : List Nat) (w : Int32) : Int32 := wthn (wthn (w - colW e g pre w) 0 99 + wrmW e g pre w) 0 99
def boilV (e : Evg) (v : Int32) : Int32 := if v < e.lim then 0 else 1
def scrV (e : Evg) (g : Nat) (pre : List Nat) (v : Int32) : Int32 := if v < e.lim then 0 else if e.ev 2 (nms e g pre v) = 0 then 0 else 1
def fin (s v : Int32) : Int32 := if s = 0 then v else v / 2
/-- warmth behind an evening, its last guest first -/
def wmt (e : Evg) : List Nat → Int32
  | [] => e.w0
  | g :: b => fin (scrV e g b (newW e g b (wmt e b))) (newW e g b (wmt e b))
def nw (e : Evg) (g : Nat) (b : List Nat) : Int32 := newW e g b (wmt e b)
def bo (e : Evg) (g : Nat) (b : List Nat) : Int32 := boilV e (nw e g b)
def sc (e : Evg) (g : Nat) (b : List Nat) : Int32 := scrV e g b (nw e g b)
theorem wmt_cons (e : Evg) (g : Nat) (b : List Nat) : wmt e (g :: b) = fin (sc e g b) (nw e g b) := rfl
/-- the env, in a state of the class and in one of the reference -/
def EnvX (e : Evg) (σ : St) : Prop := σ.1 1 5 = nI e.n ∧ σ.1 1 0 = e.w0 ∧ σ.1 1 1 = e.lim ∧ (σ.1 1 2 - σ.1 1 2 / 2 * 2 = 0 ↔ e.odd = 0) ∧ σ.1 1 4 = nI e.r ∧ (∀ g, g < e.n → σ.1 2 g = e.K g ∧ σ.1 3 g = e.N g ∧ σ.1 4 g = e.T g ∧ σ.1 5 g = e.L g) ∧ TxtX e.r e.ev σ
def EnvM (e : Evg) (μ : St) : Prop := μ.1 0 11 = nI e.n ∧ μ.1 4 0 = e.w0 ∧ μ.1 4 1 = e.lim ∧ (μ.1 4 2 - μ.1 4 2 / 2 * 2 = 1 ↔ ¬ e.odd = 0) ∧ μ.1 0 4 = nI e.r ∧ (∀ g, g < e.n → μ.1 5 g = e.K g ∧ μ.1 6 (3 * g) = e.N g ∧ μ.1 6 (3 * g + 1) = e.T g ∧ (μ.1 6 (3 * g + 2) = 1 ↔ ¬ e.L g = 0)) ∧ TxtM e.r e.ev μ
def EnvOk (e : Evg) : Prop := e.n ≤ 5 ∧ e.r < 6 ∧ (∀ g, g < e.n → rng 0 7 (e.T g) ∧ rng 0 5 (e.K g))
theorem EnvX.keep {e : Evg} {σ σ' : St} (h : EnvX e σ) (hr : e.r < 6) (hX : EX σ σ') : EnvX e σ' := by
  obtain ⟨h1, h2, h3, h4, h5, h6, h7⟩ := h
  refine ⟨(hX _ _ rfl).trans h1, (hX _ _ rfl).trans h2, (hX _ _ rfl).trans h3, ?_, (hX _ _ rfl).trans h5, fun g hg => ?_, h7.keep (fun j => hX _ _ (sc_row hr j)) (hX _ _ rfl) (hX _ _ rfl) (hX _ _ rfl)⟩
  · rw [hX 1 2 rfl]
    exact h4
  · rw [hX 2 g rfl, hX 3 g rfl, hX 4 g rfl, hX 5 g rfl]
    exact h6 g hg
theorem EnvM.keep {e : Evg} {μ μ' : St} (h : EnvM e μ) (hM : EM μ μ') : EnvM e μ' := by
  obtain ⟨h1, h2, h3, h4, h5, h6, h7⟩ := h
  refine ⟨(hM _ _ rfl).trans h1, (hM _ _ rfl).trans h2, (hM _ _ rfl).trans h3, ?_, (hM _ _ rfl).trans h5, fun g hg => ?_, h7.keep (fun j _ => hM _ _ rfl) (hM _ _ rfl)⟩
  · rw [hM 4 2 rfl]
    exact h4
  · rw [hM 5 g rfl, hM 6 _ rfl, hM 6 _ rfl, hM 6 _ rfl]
    exact h6 g hg
def envOf (n r : Nat) (ev : Nat → Nat → Nm → Int32) (σ : St) : Evg := (n, r, σ.1 1 0, σ.1 1 1, σ.1 1 2 - σ.1 1 2 / 2 * 2, fun g => σ.1 2 g, fun g => σ.1 3 g, fun g => σ.1 4 g, fun g => σ.1 5 g, ev r)
theorem env_of {n t k : Nat} {ev : Nat → Nat → Nm → Int32} {σ μ : St} (hR : RelN n t k ev σ μ) : ∃ r, r < k ∧ σ.1 1 4 = nI r ∧ EnvOk (envOf n r ev σ) ∧ EnvX (envOf n r ev σ) σ ∧ EnvM (envOf n r ev σ) μ := by
  obtain ⟨h1, h2, h3, h4, h5, h6, h7⟩ := id hR
  obtain ⟨n1, n2, n3, n4, n5, n6, n7, n8, n9, n10⟩ := id h1
  obtain ⟨v1, v2, v3, v4, v5, v6, v7, r, r1, r2, r3⟩ := id h2
  refine ⟨r, r1, r2, ⟨n1, by show r < 6; omega, fun g hg => ⟨(h3 g hg).2.2.2.2.2.2.1, (h3 g hg).2.2.2.2.1⟩⟩, ⟨n5, rfl, rfl, Iff.rfl, r2, fun g _ => ⟨rfl, rfl, rfl, rfl⟩, (h5 r r1).1⟩, ⟨n6, v1.symm, v3.symm, ?_, r3, fun g hg => ?_, (h5 r r1).2⟩⟩
  · show μ.1 4 2 - μ.1 4 2 / 2 * 2 = 1 ↔ ¬ σ.1 1 2 - σ.1 1 2 / 2 * 2 = 0
    rw [v5]
    rcases i_cases (μ.1 4 2) with h | ⟨j, hj, ej⟩
    · unfold rng at v6
      omega
    · rw [ej, show (2 : Int32) = nI 2 from rfl, pk_rem hj (by decide) (by decide), show (1 : Int32) = nI 1 from rfl, show (0 : Int32) = nI 0 from rfl, nI_eq (by omega) (by decide), nI_eq (by omega) (by decide)]
      omega
  · obtain ⟨g1, g2, g3, g4, g5, g6, g7, g8⟩ := h3 g hg
    refine ⟨g1.symm, g2.symm, g3.symm, ?_⟩
    show μ.1 6 (3 * g + 2) = 1 ↔ ¬ σ.1 5 g = 0
    rw [← g4]
    rcases b01 g8 with h | h
    · rw [h]; decide
    · rw [h]; decide
