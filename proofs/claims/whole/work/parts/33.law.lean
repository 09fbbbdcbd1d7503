def Sim_set (Rel : St → St → Prop) : Prop := ∀ (a0 a1 a2 : Int32) (σ μ : St), Rel σ μ → ∃ (r : Int32) (σ1 : St) (μ1 : St), X9_set a0 a1 a2 σ = some (r, σ1) ∧ X10_set a0 a1 a2 μ = some (r, μ1) ∧ Rel σ1 μ1
def Sim_guest (Rel : St → St → Prop) : Prop := ∀ (a0 a1 a2 : Int32) (σ μ : St), Rel σ μ → ∃ (r : Int32) (σ1 : St) (μ1 : St), X9_guest a0 a1 a2 σ = some (r, σ1) ∧ X10_guest a0 a1 a2 μ = some (r, μ1) ∧ Rel σ1 μ1
def Sim_told (Rel : St → St → Prop) : Prop := ∀ (a0 a1 : Int32) (σ μ : St), Rel σ μ → ∃ (r : Int32) (σ1 : St) (μ1 : St), X9_told a0 a1 σ = some (r, σ1) ∧ X10_told a0 a1 μ = some (r, μ1) ∧ Rel σ1 μ1
def Sim_feed (Rel : St → St → Prop) : Prop := ∀ (a0 : Int32) (σ μ : St), Rel σ μ → ∃ (r : Int32) (σ1 : St) (μ1 : St), X9_feed a0 σ = some (r, σ1) ∧ X10_feed a0 μ = some (r, μ1) ∧ Rel σ1 μ1
def Sim_text (Rel : St → St → Prop) : Prop := ∀ (σ μ : St), Rel σ μ → ∃ (r : Int32) (σ1 : St) (μ1 : St), X9_text σ = some (r, σ1) ∧ X10_text μ = some (r, μ1) ∧ Rel σ1 μ1
def Sim_force (Rel : St → St → Prop) : Prop := ∀ (a0 : Int32) (σ μ : St), Rel σ μ → ∃ (r : Int32) (σ1 : St) (μ1 : St), X9_force a0 σ = some (r, σ1) ∧ X10_force a0 μ = some (r, μ1) ∧ Rel σ1 μ1
def Sim_evening (Rel : St → St → Prop) : Prop := ∀ (a0 a1 : Int32) (σ μ : St), Rel σ μ → ∃ (r : Int32) (σ1 : St) (μ1 : St), X9_evening a0 a1 σ = some (r, σ1) ∧ X10_evening a0 a1 μ = some (r, μ1) ∧ Rel σ1 μ1
def Sim_hold (Rel : St → St → Prop) : Prop := ∀ (a0 : Int32) (σ μ : St), Rel σ μ → ∃ (r : Int32) (σ1 : St) (μ1 : St), X9_hold a0 σ = some (r, σ1) ∧ X10_hold a0 μ = some (r, μ1) ∧ Rel σ1 μ1
def Sim_warmest (Rel : St → St → Prop) : Prop := ∀ (a0 : Int32) (σ μ : St), Rel σ μ → ∃ (r : Int32) (σ1 : St) (μ1 : St), X9_warmest a0 σ = some (r, σ1) ∧ X10_warmest a0 μ = some (r, μ1) ∧ Rel σ1 μ1
def Sim_soonest (Rel : St → St → Prop) : Prop := ∀ (a0 : Int32) (σ μ : St), Rel σ μ → ∃ (r : Int32) (σ1 : St) (μ1 : St), X9_soonest a0 σ = some (r, σ1) ∧ X10_soonest a0 μ = some (r, μ1) ∧ Rel σ1 μ1
def Sim_ratherNot (Rel : St → St → Prop) : Prop := ∀ (a0 : Int32) (σ μ : St), Rel σ μ → ∃ (r : Int32) (σ1 : St) (μ1 : St), X9_ratherNot a0 σ = some (r, σ1) ∧ X10_ratherNot a0 μ = some (r, μ1) ∧ Rel σ1 μ1
def Sim_topic (Rel : St → St → Prop) : Prop := ∀ (a0 a1 : Int32) (σ μ : St), Rel σ μ → ∃ (r : Int32) (σ1 : St) (μ1 : St), X9_topic a0 a1 σ = some (r, σ1) ∧ X10_topic a0 a1 μ = some (r, μ1) ∧ Rel σ1 μ1
def Sim_turns (Rel : St → St → Prop) : Prop := ∀ (a0 : Int32) (σ μ : St), Rel σ μ → ∃ (r : Int32) (σ1 : St) (μ1 : St), X9_turns a0 σ = some (r, σ1) ∧ X10_turns a0 μ = some (r, μ1) ∧ Rel σ1 μ1
def Sim_tells (Rel : St → St → Prop) : Prop := ∀ (a0 a1 : Int32) (σ μ : St), Rel σ μ → ∃ (r : Int32) (σ1 : St) (μ1 : St), X9_tells a0 a1 σ = some (r, σ1) ∧ X10_tells a0 a1 μ = some (r, μ1) ∧ Rel σ1 μ1
def Sim_film (Rel : St → St → Prop) : Prop := ∀ (a0 : Int32) (σ μ : St), Rel σ μ → ∃ (r : Int32) (σ1 : St) (μ1 : St), X9_film a0 σ = some (r, σ1) ∧ X10_film a0 μ = some (r, μ1) ∧ Rel σ1 μ1
def Sim_drawn (Rel : St → St → Prop) : Prop := ∀ (a0 : Int32) (σ μ : St), Rel σ μ → ∃ (r : Int32) (σ1 : St) (μ1 : St), X9_drawn a0 σ = some (r, σ1) ∧ X10_drawn a0 μ = some (r, μ1) ∧ Rel σ1 μ1
def Sim_chance (Rel : St → St → Prop) : Prop := ∀ (a0 a1 a2 : Int32) (σ μ : St), Rel σ μ → ∃ (r : Int64) (σ1 : St) (μ1 : St), X9_chance a0 a1 a2 σ = some (r, σ1) ∧ X10_chance a0 a1 a2 μ = some (r, μ1) ∧ Rel σ1 μ1
def Sim_image (Rel : St → St → Prop) : Prop := ∀ (σ μ : St), Rel σ μ → ∃ (r : Int32) (σ1 : St) (μ1 : St), X9_image σ = some (r, σ1) ∧ X10_image μ = some (r, μ1) ∧ Rel σ1 μ1
def Sim_back (Rel : St → St → Prop) : Prop := ∀ (σ μ : St), Rel σ μ → ∃ (r : Int32) (σ1 : St) (μ1 : St), X9_back σ = some (r, σ1) ∧ X10_back μ = some (r, μ1) ∧ Rel σ1 μ1
def Sim_count (Rel : St → St → Prop) : Prop := ∀ (a0 : Int32) (σ μ : St), Rel σ μ → ∃ (r : Int32), X9_count a0 σ = some r ∧ X10_count a0 μ = some r ∧ Rel σ μ
def Sim_sheet (Rel : St → St → Prop) : Prop := ∀ (a0 a1 a2 : Int32) (σ μ : St), Rel σ μ → ∃ (r : Int32) (σ1 : St) (μ1 : St), X9_sheet a0 a1 a2 σ = some (r, σ1) ∧ X10_sheet a0 a1 a2 μ = some (r, μ1) ∧ Rel σ1 μ1
def Sim_cell (Rel : St → St → Prop) : Prop := ∀ (a0 a1 a2 : Int32) (σ μ : St), Rel σ μ → ∃ (r : Int32) (σ1 : St) (μ1 : St), X9_cell a0 a1 a2 σ = some (r, σ1) ∧ X10_cell a0 a1 a2 μ = some (r, μ1) ∧ Rel σ1 μ1
def Sim_copy (Rel : St → St → Prop) : Prop := ∀ (a0 a1 a2 a3 a4 : Int32) (σ μ : St), Rel σ μ → ∃ (r : Int32) (σ1 : St) (μ1 : St), X9_copy a0 a1 a2 a3 a4 σ = some (r, σ1) ∧ X10_copy a0 a1 a2 a3 a4 μ = some (r, μ1) ∧ Rel σ1 μ1
def Sim_guests (Rel : St → St → Prop) : Prop := ∀ (a0 a1 a2 a3 : Int32) (σ μ : St), Rel σ μ → ∃ (r : Int32) (σ1 : St) (μ1 : St), X9_guests a0 a1 a2 a3 σ = some (r, σ1) ∧ X10_guests a0 a1 a2 a3 μ = some (r, μ1) ∧ Rel σ1 μ1
def Sim_taken (Rel : St → St → Prop) : Prop := ∀ (a0 a1 : Int32) (σ μ : St), Rel σ μ → ∃ (r : Int32), X9_taken a0 a1 σ = some r ∧ X10_taken a0 a1 μ = some r ∧ Rel σ μ
def Sim (Rel : St → St → Prop) : Prop := Sim_set Rel ∧ Sim_guest Rel ∧ Sim_told Rel ∧ Sim_feed Rel ∧ Sim_text Rel ∧ Sim_force Rel ∧ Sim_evening Rel ∧ Sim_hold Rel ∧ Sim_warmest Rel ∧ Sim_soonest Rel ∧ Sim_ratherNot Rel ∧ Sim_topic Rel ∧ Sim_turns Rel ∧ Sim_tells Rel ∧ Sim_film Rel ∧ Sim_drawn Rel ∧ Sim_chance Rel ∧ Sim_image Rel ∧ Sim_back Rel ∧ Sim_count Rel ∧ Sim_sheet Rel ∧ Sim_cell Rel ∧ Sim_copy Rel ∧ Sim_guests Rel ∧ Sim_taken Rel
theorem qL_13 : Cond.methodLink RL 13 yX9_set ∈ wsL_law := wu (tb3 (List.mem_of_getElem? (i := 29) (by decide +kernel))) rfl
theorem qL_17 : Cond.methodLink RL 17 yX10_set ∈ wsL_law := wu (tb5 (List.mem_of_getElem? (i := 64) (by decide +kernel))) rfl
theorem qL_18 : Cond.methodLink RL 18 yX9_guest ∈ wsL_law := wu (tb3 (List.mem_of_getElem? (i := 56) (by decide +kernel))) rfl
theorem qL_21 : Cond.methodLink RL 21 yX10_guest ∈ wsL_law := wu (tb5 (List.mem_of_getElem? (i := 182) (by decide +kernel))) rfl
theorem qL_22 : Cond.methodLink RL 22 yX9_told ∈ wsL_law := wu (tb3 (List.mem_of_getElem? (i := 64) (by decide +kernel))) rfl
theorem qL_26 : Cond.methodLink RL 26 yX10_told ∈ wsL_law := wu (tb5 (List.mem_of_getElem? (i := 188) (by decide +kernel))) rfl
theorem qL_27 : Cond.methodLink RL 27 yX9_feed ∈ wsL_law := wu (tb3 (List.mem_of_getElem? (i := 126) (by decide +kernel))) rfl
theorem qL_31 : Cond.methodLink RL 31 yX10_feed ∈ wsL_law := wu (tb5 (List.mem_of_getElem? (i := 189) (by decide +kernel))) rfl
theorem qL_32 : Cond.methodLink RL 32 yX9_text ∈ wsL_law := wu (tb3 (List.mem_of_getElem? (i := 130) (by decide +kernel))) rfl
theorem qL_36 : Cond.methodLink RL 36 yX10_text ∈ wsL_law := wu (tb5 (List.mem_of_getElem? (i := 194) (by decide +kernel))) rfl
theorem qL_37 : Cond.methodLink RL 37 yX9_force ∈ wsL_law := wu (tb3 (List.mem_of_getElem? (i := 135) (by decide +kernel))) rfl
theorem qL_40 : Cond.methodLink RL 40 yX10_force ∈ wsL_law := wu (tb5 (List.mem_of_getElem? (i := 198) (by decide +kernel))) rfl
theorem qL_41 : Cond.methodLink RL 41 yX9_evening ∈ wsL_law := wu (tb3 (List.mem_of_getElem? (i := 139) (by decide +kernel))) rfl
theorem qL_44 : Cond.methodLink RL 44 yX10_evening ∈ wsL_law := wu (tb5 (List.mem_of_getElem? (i := 202) (by decide +kernel))) rfl
theorem qL_45 : Cond.methodLink RL 45 yX9_hold ∈ wsL_law := wu (tb3 (List.mem_of_getElem? (i := 181) (by decide +kernel))) rfl
theorem qL_48 : Cond.methodLink RL 48 yX10_hold ∈ wsL_law := wu (tb5 (List.mem_of_getElem? (i := 231) (by decide +kernel))) rfl
theorem qL_49 : Cond.methodLink RL 49 yX9_warmest ∈ wsL_law := wu (tb3 (List.mem_of_getElem? (i := 185) (by decide +kernel))) rfl
theorem qL_52 : Cond.methodLink RL 52 yX10_warmest ∈ wsL_law := wu (tb5 (List.mem_of_getElem? (i := 235) (by decide +kernel))) rfl
theorem qL_53 : Cond.methodLink RL 53 yX9_soonest ∈ wsL_law := wu (tb3 (List.mem_of_getElem? (i := 209) (by decide +kernel))) rfl
theorem qL_56 : Cond.methodLink RL 56 yX10_soonest ∈ wsL_law := wu (tb6 (List.mem_of_getElem? (i := 11) (by decide +kernel))) rfl
theorem qL_57 : Cond.methodLink RL 57 yX9_ratherNot ∈ wsL_law := wu (tb3 (List.mem_of_getElem? (i := 231) (by decide +kernel))) rfl
theorem qL_60 : Cond.methodLink RL 60 yX10_ratherNot ∈ wsL_law := wu (tb6 (List.mem_of_getElem? (i := 23) (by decide +kernel))) rfl
theorem qL_61 : Cond.methodLink RL 61 yX9_topic ∈ wsL_law := wu (tb3 (List.mem_of_getElem? (i := 235) (by decide +kernel))) rfl
theorem qL_64 : Cond.methodLink RL 64 yX10_topic ∈ wsL_law := wu (tb6 (List.mem_of_getElem? (i := 27) (by decide +kernel))) rfl
theorem qL_65 : Cond.methodLink RL 65 yX9_turns ∈ wsL_law := wu (tb3 (List.mem_of_getElem? (i := 239) (by decide +kernel))) rfl
theorem qL_68 : Cond.methodLink RL 68 yX10_turns ∈ wsL_law := wu (tb6 (List.mem_of_getElem? (i := 31) (by decide +kernel))) rfl
theorem qL_69 : Cond.methodLink RL 69 yX9_tells ∈ wsL_law := wu (tb4 (List.mem_of_getElem? (i := 11) (by decide +kernel))) rfl
theorem qL_72 : Cond.methodLink RL 72 yX10_tells ∈ wsL_law := wu (tb6 (List.mem_of_getElem? (i := 39) (by decide +kernel))) rfl
theorem qL_73 : Cond.methodLink RL 73 yX9_film ∈ wsL_law := wu (tb4 (List.mem_of_getElem? (i := 57) (by decide +kernel))) rfl
theorem qL_76 : Cond.methodLink RL 76 yX10_film ∈ wsL_law := wu (tb6 (List.mem_of_getElem? (i := 57) (by decide +kernel))) rfl
theorem qL_77 : Cond.methodLink RL 77 yX9_drawn ∈ wsL_law := wu (tb4 (List.mem_of_getElem? (i := 74) (by decide +kernel))) rfl
theorem qL_80 : Cond.methodLink RL 80 yX10_drawn ∈ wsL_law := wu (tb6 (List.mem_of_getElem? (i := 66) (by decide +kernel))) rfl
theorem qL_81 : Cond.methodLink RL 81 yX9_chance ∈ wsL_law := wu (tb4 (List.mem_of_getElem? (i := 84) (by decide +kernel))) rfl
theorem qL_85 : Cond.methodLink RL 85 yX10_chance ∈ wsL_law := wu (tb6 (List.mem_of_getElem? (i := 75) (by decide +kernel))) rfl
theorem qL_86 : Cond.methodLink RL 86 yX9_image ∈ wsL_law := wu (tb4 (List.mem_of_getElem? (i := 92) (by decide +kernel))) rfl
theorem qL_89 : Cond.methodLink RL 89 yX10_image ∈ wsL_law := wu (tb6 (List.mem_of_getElem? (i := 81) (by decide +kernel))) rfl
theorem qL_90 : Cond.methodLink RL 90 yX9_back ∈ wsL_law := wu (tb4 (List.mem_of_getElem? (i := 103) (by decide +kernel))) rfl
theorem qL_93 : Cond.methodLink RL 93 yX10_back ∈ wsL_law := wu (tb6 (List.mem_of_getElem? (i := 85) (by decide +kernel))) rfl
theorem qL_94 : Cond.methodLink RL 94 yX9_count ∈ wsL_law := wu (tb4 (List.mem_of_getElem? (i := 107) (by decide +kernel))) rfl
theorem qL_97 : Cond.methodLink RL 97 yX10_count ∈ wsL_law := wu (tb6 (List.mem_of_getElem? (i := 89) (by decide +kernel))) rfl
theorem qL_98 : Cond.methodLink RL 98 yX9_sheet ∈ wsL_law := wu (tb4 (List.mem_of_getElem? (i := 115) (by decide +kernel))) rfl
theorem qL_101 : Cond.methodLink RL 101 yX10_sheet ∈ wsL_law := wu (tb6 (List.mem_of_getElem? (i := 94) (by decide +kernel))) rfl
theorem qL_102 : Cond.methodLink RL 102 yX9_cell ∈ wsL_law := wu (tb4 (List.mem_of_getElem? (i := 122) (by decide +kernel))) rfl
theorem qL_105 : Cond.methodLink RL 105 yX10_cell ∈ wsL_law := wu (tb6 (List.mem_of_getElem? (i := 95) (by decide +kernel))) rfl
theorem qL_106 : Cond.methodLink RL 106 yX9_copy ∈ wsL_law := wu (tb4 (List.mem_of_getElem? (i := 130) (by decide +kernel))) rfl
theorem qL_110 : Cond.methodLink RL 110 yX10_copy ∈ wsL_law := wu (tb6 (List.mem_of_getElem? (i := 99) (by decide +kernel))) rfl
theorem qL_111 : Cond.methodLink RL 111 yX9_guests ∈ wsL_law := wu (tb4 (List.mem_of_getElem? (i := 135) (by decide +kernel))) rfl
theorem qL_115 : Cond.methodLink RL 115 yX10_guests ∈ wsL_law := wu (tb6 (List.mem_of_getElem? (i := 103) (by decide +kernel))) rfl
theorem qL_116 : Cond.methodLink RL 116 yX9_taken ∈ wsL_law := wu (tb4 (List.mem_of_getElem? (i := 141) (by decide +kernel))) rfl
theorem qL_119 : Cond.methodLink RL 119 yX10_taken ∈ wsL_law := wu (tb6 (List.mem_of_getElem? (i := 108) (by decide +kernel))) rfl
theorem lg_self (r : Int64) : lg_cmp r r = 0 := by
  unfold lg_cmp
  rw [if_neg (by simp), if_pos rfl]
theorem li_add {i k L : Nat} (hi : i + 6 ≤ L) (hL : L ≤ 3072) (hk : k < 6) : vp_in (nI i + nI k) L := by
  rw [nI_add]
  exact vp_in_nI (by omega) (by omega)
set_option maxRecDepth 100000 in
set_option maxHeartbeats 4000000 in
theorem law_c0 {p : Program} {l : Launch} {e : Env} {s : State} {m : MethodId} {below : List Frame} {meth : Method} {c : Code} {G : Gx} {am : Nat → Nat} {b L : Nat} {xs : Nat → Int32} {A : Nat → Prop} {Q : State → Prop} {Rel : St → St → Prop} (hS : Sim_set Rel) (C : OKL G am p s m #[Value.ref b] meth c b L xs A) (hL : L ≤ 3072) {i : Nat} (hi : i + 6 ≤ L) {σ μ : St} (hR : Rel σ μ) (kk : ∀ σ μ, Rel σ μ → Lw G am p l e room_1 s m #[Value.ref b] below meth c A 600000 7302250 Q σ μ 914 [(0, .ref b), (1, .ref (G.2.1 0)), (2, .ref (am 0)), (3, .int (nI i))] []) : Lw G am p l e room_1 s m #[Value.ref b] below meth c A 600000 7302250 Q σ μ 148 [(0, .ref b), (1, .ref (G.2.1 0)), (2, .ref (am 0)), (3, .int (nI i))] [] := by
  obtain ⟨r, σ1, μ1, hx, hm, hR1⟩ := hS (xs (nI i + nI 1).toNatClampNeg) (xs (nI i + nI 2).toNatClampNeg) (xs (nI i + nI 3).toNatClampNeg) σ μ hR
  refine L_aload_n C 1 dL_law_148 rfl rfl ?_
  refine L_aload_n C 0 dL_law_149 rfl rfl ?_
  refine L_iload_n C 3 dL_law_150 rfl rfl ?_
  refine L_iconst C (w := nI 1) dL_law_151 (by decide) ?_
  refine L_iadd C dL_law_152 ?_
  refine L_sld C (li_add hi hL (by decide)) dL_law_153 ?_
  refine L_aload_n C 0 dL_law_154 rfl rfl ?_
  refine L_iload_n C 3 dL_law_155 rfl rfl ?_
  refine L_iconst C (w := nI 2) dL_law_156 (by decide) ?_
  refine L_iadd C dL_law_157 ?_
  refine L_sld C (li_add hi hL (by decide)) dL_law_158 ?_
  refine L_aload_n C 0 dL_law_159 rfl rfl ?_
  refine L_iload_n C 3 dL_law_160 rfl rfl ?_
  refine L_iconst C (w := nI 3) dL_law_161 (by decide) ?_
  refine L_iadd C dL_law_162 ?_
  refine L_sld C (li_add hi hL (by decide)) dL_law_163 ?_
  refine L_callX (As := [.int (xs (nI i + nI 1).toNatClampNeg), .int (xs (nI i + nI 2).toNatClampNeg), .int (xs (nI i + nI 3).toNatClampNeg)]) (st := []) (vr := fun _ => some (.int r)) C (X9_set_ok hx) mw_X9_set.1 mw_X9_set.2.1 mw_X9_set.2.2 qL_13 rfl rfl rfl rfl (Nat.le_of_ble_eq_true rfl) (Nat.le_of_ble_eq_true rfl) (Nat.le_of_ble_eq_true rfl) (Nat.le_refl _) (Nat.le_refl _) dL_law_164 ?_
  refine L_aload_n C 2 dL_law_167 rfl rfl ?_
  refine L_aload_n C 0 dL_law_168 rfl rfl ?_
  refine L_iload_n C 3 dL_law_169 rfl rfl ?_
  refine L_iconst C (w := nI 1) dL_law_170 (by decide) ?_
  refine L_iadd C dL_law_171 ?_
  refine L_sld C (li_add hi hL (by decide)) dL_law_172 ?_
  refine L_aload_n C 0 dL_law_173 rfl rfl ?_
  refine L_iload_n C 3 dL_law_174 rfl rfl ?_
  refine L_iconst C (w := nI 2) dL_law_175 (by decide) ?_
  refine L_iadd C dL_law_176 ?_
  refine L_sld C (li_add hi hL (by decide)) dL_law_177 ?_
  refine L_aload_n C 0 dL_law_178 rfl rfl ?_
  refine L_iload_n C 3 dL_law_179 rfl rfl ?_
  refine L_iconst C (w := nI 3) dL_law_180 (by decide) ?_
  refine L_iadd C dL_law_181 ?_
  refine L_sld C (li_add hi hL (by decide)) dL_law_182 ?_
  refine L_callM (As := [.int (xs (nI i + nI 1).toNatClampNeg), .int (xs (nI i + nI 2).toNatClampNeg), .int (xs (nI i + nI 3).toNatClampNeg)]) (st := [.int r]) (vr := fun _ => some (.int r)) C (X10_set_ok hm) mw_X10_set.1 mw_X10_set.2.1 mw_X10_set.2.2 qL_17 rfl rfl rfl rfl (Nat.le_of_ble_eq_true rfl) (Nat.le_of_ble_eq_true rfl) (Nat.le_of_ble_eq_true rfl) (Nat.le_refl _) (Nat.le_refl _) dL_law_183 ?_
  refine L_icmp_eqT C 914 dL_law_186 (by decide) rfl ?_
  exact kk _ _ hR1
set_option maxRecDepth 100000 in
set_option maxHeartbeats 4000000 in
theorem law_c1 {p : Program} {l : Launch} {e : Env} {s : State} {m : MethodId} {below : List Frame} {meth : Method} {c : Code} {G : Gx} {am : Nat → Nat} {b L : Nat} {xs : Nat → Int32} {A : Nat → Prop} {Q : State → Prop} {Rel : St → St → Prop} (hS : Sim_guest Rel) (C : OKL G am p s m #[Value.ref b] meth c b L xs A) (hL : L ≤ 3072) {i : Nat} (hi : i + 6 ≤ L) {σ μ : St} (hR : Rel σ μ) (kk : ∀ σ μ, Rel σ μ → Lw G am p l e room_1 s m #[Value.ref b] below meth c A 600000 7302250 Q σ μ 914 [(0, .ref b), (1, .ref (G.2.1 0)), (2, .ref (am 0)), (3, .int (nI i))] []) : Lw G am p l e room_1 s m #[Value.ref b] below meth c A 600000 7302250 Q σ μ 191 [(0, .ref b), (1, .ref (G.2.1 0)), (2, .ref (am 0)), (3, .int (nI i))] [] := by
  obtain ⟨r, σ1, μ1, hx, hm, hR1⟩ := hS (xs (nI i + nI 1).toNatClampNeg) (xs (nI i + nI 2).toNatClampNeg) (xs (nI i + nI 3).toNatClampNeg) σ μ hR
  refine L_aload_n C 1 dL_law_191 rfl rfl ?_
  refine L_aload_n C 0 dL_law_192 rfl rfl ?_
  refine L_iload_n C 3 dL_law_193 rfl rfl ?_
  refine L_iconst C (w := nI 1) dL_law_194 (by decide) ?_
  refine L_iadd C dL_law_195 ?_
  refine L_sld C (li_add hi hL (by decide)) dL_law_196 ?_
  refine L_aload_n C 0 dL_law_197 rfl rfl ?_
  refine L_iload_n C 3 dL_law_198 rfl rfl ?_
  refine L_iconst C (w := nI 2) dL_law_199 (by decide) ?_
  refine L_iadd C dL_law_200 ?_
  refine L_sld C (li_add hi hL (by decide)) dL_law_201 ?_
  refine L_aload_n C 0 dL_law_202 rfl rfl ?_
  refine L_iload_n C 3 dL_law_203 rfl rfl ?_
  refine L_iconst C (w := nI 3) dL_law_204 (by decide) ?_
  refine L_iadd C dL_law_205 ?_
  refine L_sld C (li_add hi hL (by decide)) dL_law_206 ?_
  refine L_callX (As := [.int (xs (nI i + nI 1).toNatClampNeg), .int (xs (nI i + nI 2).toNatClampNeg), .int (xs (nI i + nI 3).toNatClampNeg)]) (st := []) (vr := fun _ => some (.int r)) C (X9_guest_ok hx) mw_X9_guest.1 mw_X9_guest.2.1 mw_X9_guest.2.2 qL_18 rfl rfl rfl rfl (Nat.le_of_ble_eq_true rfl) (Nat.le_of_ble_eq_true rfl) (Nat.le_of_ble_eq_true rfl) (Nat.le_refl _) (Nat.le_refl _) dL_law_207 ?_
  refine L_aload_n C 2 dL_law_210 rfl rfl ?_
  refine L_aload_n C 0 dL_law_211 rfl rfl ?_
  refine L_iload_n C 3 dL_law_212 rfl rfl ?_
  refine L_iconst C (w := nI 1) dL_law_213 (by decide) ?_
  refine L_iadd C dL_law_214 ?_
  refine L_sld C (li_add hi hL (by decide)) dL_law_215 ?_
  refine L_aload_n C 0 dL_law_216 rfl rfl ?_
  refine L_iload_n C 3 dL_law_217 rfl rfl ?_
  refine L_iconst C (w := nI 2) dL_law_218 (by decide) ?_
  refine L_iadd C dL_law_219 ?_
  refine L_sld C (li_add hi hL (by decide)) dL_law_220 ?_
  refine L_aload_n C 0 dL_law_221 rfl rfl ?_
  refine L_iload_n C 3 dL_law_222 rfl rfl ?_
  refine L_iconst C (w := nI 3) dL_law_223 (by decide) ?_
  refine L_iadd C dL_law_224 ?_
  refine L_sld C (li_add hi hL (by decide)) dL_law_225 ?_
  refine L_callM (As := [.int (xs (nI i + nI 1).toNatClampNeg), .int (xs (nI i + nI 2).toNatClampNeg), .int (xs (nI i + nI 3).toNatClampNeg)]) (st := [.int r]) (vr := fun _ => some (.int r)) C (X10_guest_ok hm) mw_X10_guest.1 mw_X10_guest.2.1 mw_X10_guest.2.2 qL_21 rfl rfl rfl rfl (Nat.le_of_ble_eq_true rfl) (Nat.le_of_ble_eq_true rfl) (Nat.le_of_ble_eq_true rfl) (Nat.le_refl _) (Nat.le_refl _) dL_law_226 ?_
  refine L_icmp_eqT C 914 dL_law_229 (by decide) rfl ?_
  exact kk _ _ hR1
set_option maxRecDepth 100000 in
set_option maxHeartbeats 4000000 in
theorem law_c2 {p : Program} {l : Launch} {e : Env} {s : State} {m : MethodId} {below : List Frame} {meth : Method} {c : Code} {G : Gx} {am : Nat → Nat} {b L : Nat} {xs : Nat → Int32} {A : Nat → Prop} {Q : State → Prop} {Rel : St → St → Prop} (hS : Sim_told Rel) (C : OKL G am p s m #[Value.ref b] meth c b L xs A) (hL : L ≤ 3072) {i : Nat} (hi : i + 6 ≤ L) {σ μ : St} (hR : Rel σ μ) (kk : ∀ σ μ, Rel σ μ → Lw G am p l e room_1 s m #[Value.ref b] below meth c A 600000 7302250 Q σ μ 914 [(0, .ref b), (1, .ref (G.2.1 0)), (2, .ref (am 0)), (3, .int (nI i))] []) : Lw G am p l e room_1 s m #[Value.ref b] below meth c A 600000 7302250 Q σ μ 234 [(0, .ref b), (1, .ref (G.2.1 0)), (2, .ref (am 0)), (3, .int (nI i))] [] := by
  obtain ⟨r, σ1, μ1, hx, hm, hR1⟩ := hS (xs (nI i + nI 1).toNatClampNeg) (xs (nI i + nI 2).toNatClampNeg) σ μ hR
  refine L_aload_n C 1 dL_law_234 rfl rfl ?_
  refine L_aload_n C 0 dL_law_235 rfl rfl ?_
  refine L_iload_n C 3 dL_law_236 rfl rfl ?_
  refine L_iconst C (w := nI 1) dL_law_237 (by decide) ?_
  refine L_iadd C dL_law_238 ?_
  refine L_sld C (li_add hi hL (by decide)) dL_law_239 ?_
  refine L_aload_n C 0 dL_law_240 rfl rfl ?_
  refine L_iload_n C 3 dL_law_241 rfl rfl ?_
  refine L_iconst C (w := nI 2) dL_law_242 (by decide) ?_
  refine L_iadd C dL_law_243 ?_
  refine L_sld C (li_add hi hL (by decide)) dL_law_244 ?_
  refine L_callX (As := [.int (xs (nI i + nI 1).toNatClampNeg), .int (xs (nI i + nI 2).toNatClampNeg)]) (st := []) (vr := fun _ => some (.int r)) C (X9_told_ok hx) mw_X9_told.1 mw_X9_told.2.1 mw_X9_told.2.2 qL_22 rfl rfl rfl rfl (Nat.le_of_ble_eq_true rfl) (Nat.le_of_ble_eq_true rfl) (Nat.le_of_ble_eq_true rfl) (Nat.le_refl _) (Nat.le_refl _) dL_law_245 ?_
  refine L_aload_n C 2 dL_law_248 rfl rfl ?_
  refine L_aload_n C 0 dL_law_249 rfl rfl ?_
  refine L_iload_n C 3 dL_law_250 rfl rfl ?_
  refine L_iconst C (w := nI 1) dL_law_251 (by decide) ?_
  refine L_iadd C dL_law_252 ?_
  refine L_sld C (li_add hi hL (by decide)) dL_law_253 ?_
  refine L_aload_n C 0 dL_law_254 rfl rfl ?_
  refine L_iload_n C 3 dL_law_255 rfl rfl ?_
  refine L_iconst C (w := nI 2) dL_law_256 (by decide) ?_
  refine L_iadd C dL_law_257 ?_
  refine L_sld C (li_add hi hL (by decide)) dL_law_258 ?_
  refine L_callM (As := [.int (xs (nI i + nI 1).toNatClampNeg), .int (xs (nI i + nI 2).toNatClampNeg)]) (st := [.int r]) (vr := fun _ => some (.int r)) C (X10_told_ok hm) mw_X10_told.1 mw_X10_told.2.1 mw_X10_told.2.2 qL_26 rfl rfl rfl rfl (Nat.le_of_ble_eq_true rfl) (Nat.le_of_ble_eq_true rfl) (Nat.le_of_ble_eq_true rfl) (Nat.le_refl _) (Nat.le_refl _) dL_law_259 ?_
  refine L_icmp_eqT C 914 dL_law_262 (by decide) rfl ?_
  exact kk _ _ hR1
set_option maxRecDepth 100000 in
set_option maxHeartbeats 4000000 in
theorem law_c3 {p : Program} {l : Launch} {e : Env} {s : State} {m : MethodId} {below : List Frame} {meth : Method} {c : Code} {G : Gx} {am : Nat → Nat} {b L : Nat} {xs : Nat → Int32} {A : Nat → Prop} {Q : State → Prop} {Rel : St → St → Prop} (hS : Sim_feed Rel) (C : OKL G am p s m #[Value.ref b] meth c b L xs A) (hL : L ≤ 3072) {i : Nat} (hi : i + 6 ≤ L) {σ μ : St} (hR : Rel σ μ) (kk : ∀ σ μ, Rel σ μ → Lw G am p l e room_1 s m #[Value.ref b] below meth c A 600000 7302250 Q σ μ 914 [(0, .ref b), (1, .ref (G.2.1 0)), (2, .ref (am 0)), (3, .int (nI i))] []) : Lw G am p l e room_1 s m #[Value.ref b] below meth c A 600000 7302250 Q σ μ 267 [(0, .ref b), (1, .ref (G.2.1 0)), (2, .ref (am 0)), (3, .int (nI i))] [] := by
  obtain ⟨r, σ1, μ1, hx, hm, hR1⟩ := hS (xs (nI i + nI 1).toNatClampNeg) σ μ hR
  refine L_aload_n C 1 dL_law_267 rfl rfl ?_
  refine L_aload_n C 0 dL_law_268 rfl rfl ?_
  refine L_iload_n C 3 dL_law_269 rfl rfl ?_
  refine L_iconst C (w := nI 1) dL_law_270 (by decide) ?_
  refine L_iadd C dL_law_271 ?_
  refine L_sld C (li_add hi hL (by decide)) dL_law_272 ?_
  refine L_callX (As := [.int (xs (nI i + nI 1).toNatClampNeg)]) (st := []) (vr := fun _ => some (.int r)) C (X9_feed_ok hx) mw_X9_feed.1 mw_X9_feed.2.1 mw_X9_feed.2.2 qL_27 rfl rfl rfl rfl (Nat.le_of_ble_eq_true rfl) (Nat.le_of_ble_eq_true rfl) (Nat.le_of_ble_eq_true rfl) (Nat.le_refl _) (Nat.le_refl _) dL_law_273 ?_
  refine L_aload_n C 2 dL_law_276 rfl rfl ?_
  refine L_aload_n C 0 dL_law_277 rfl rfl ?_
  refine L_iload_n C 3 dL_law_278 rfl rfl ?_
  refine L_iconst C (w := nI 1) dL_law_279 (by decide) ?_
  refine L_iadd C dL_law_280 ?_
  refine L_sld C (li_add hi hL (by decide)) dL_law_281 ?_
  refine L_callM (As := [.int (xs (nI i + nI 1).toNatClampNeg)]) (st := [.int r]) (vr := fun _ => some (.int r)) C (X10_feed_ok hm) mw_X10_feed.1 mw_X10_feed.2.1 mw_X10_feed.2.2 qL_31 rfl rfl rfl rfl (Nat.le_of_ble_eq_true rfl) (Nat.le_of_ble_eq_true rfl) (Nat.le_of_ble_eq_true rfl) (Nat.le_refl _) (Nat.le_refl _) dL_law_282 ?_
  refine L_icmp_eqT C 914 dL_law_285 (by decide) rfl ?_
  exact kk _ _ hR1
set_option maxRecDepth 100000 in
set_option maxHeartbeats 4000000 in
theorem law_c4 {p : Program} {l : Launch} {e : Env} {s : State} {m : MethodId} {below : List Frame} {meth : Method} {c : Code} {G : Gx} {am : Nat → Nat} {b L : Nat} {xs : Nat → Int32} {A : Nat → Prop} {Q : State → Prop} {Rel : St → St → Prop} (hS : Sim_text Rel) (C : OKL G am p s m #[Value.ref b] meth c b L xs A) (hL : L ≤ 3072) {i : Nat} (hi : i + 6 ≤ L) {σ μ : St} (hR : Rel σ μ) (kk : ∀ σ μ, Rel σ μ → Lw G am p l e room_1 s m #[Value.ref b] below meth c A 600000 7302250 Q σ μ 914 [(0, .ref b), (1, .ref (G.2.1 0)), (2, .ref (am 0)), (3, .int (nI i))] []) : Lw G am p l e room_1 s m #[Value.ref b] below meth c A 600000 7302250 Q σ μ 290 [(0, .ref b), (1, .ref (G.2.1 0)), (2, .ref (am 0)), (3, .int (nI i))] [] := by
  obtain ⟨r, σ1, μ1, hx, hm, hR1⟩ := hS  σ μ hR
  refine L_aload_n C 1 dL_law_290 rfl rfl ?_
  refine L_callX (As := []) (st := []) (vr := fun _ => some (.int r)) C (X9_text_ok hx) mw_X9_text.1 mw_X9_text.2.1 mw_X9_text.2.2 qL_32 rfl rfl rfl rfl (Nat.le_of_ble_eq_true rfl) (Nat.le_of_ble_eq_true rfl) (Nat.le_of_ble_eq_true rfl) (Nat.le_refl _) (Nat.le_refl _) dL_law_291 ?_
  refine L_aload_n C 2 dL_law_294 rfl rfl ?_
  refine L_callM (As := []) (st := [.int r]) (vr := fun _ => some (.int r)) C (X10_text_ok hm) mw_X10_text.1 mw_X10_text.2.1 mw_X10_text.2.2 qL_36 rfl rfl rfl rfl (Nat.le_of_ble_eq_true rfl) (Nat.le_of_ble_eq_true rfl) (Nat.le_of_ble_eq_true rfl) (Nat.le_refl _) (Nat.le_refl _) dL_law_295 ?_
  refine L_icmp_eqT C 914 dL_law_298 (by decide) rfl ?_
  exact kk _ _ hR1
set_option maxRecDepth 100000 in
set_option maxHeartbeats 4000000 in
theorem law_c5 {p : Program} {l : Launch} {e : Env} {s : State} {m : MethodId} {below : List Frame} {meth : Method} {c : Code} {G : Gx} {am : Nat → Nat} {b L : Nat} {xs : Nat → Int32} {A : Nat → Prop} {Q : State → Prop} {Rel : St → St → Prop} (hS : Sim_force Rel) (C : OKL G am p s m #[Value.ref b] meth c b L xs A) (hL : L ≤ 3072) {i : Nat} (hi : i + 6 ≤ L) {σ μ : St} (hR : Rel σ μ) (kk : ∀ σ μ, Rel σ μ → Lw G am p l e room_1 s m #[Value.ref b] below meth c A 600000 7302250 Q σ μ 914 [(0, .ref b), (1, .ref (G.2.1 0)), (2, .ref (am 0)), (3, .int (nI i))] []) : Lw G am p l e room_1 s m #[Value.ref b] below meth c A 600000 7302250 Q σ μ 303 [(0, .ref b), (1, .ref (G.2.1 0)), (2, .ref (am 0)), (3, .int (nI i))] [] := by
  obtain ⟨r, σ1, μ1, hx, hm, hR1⟩ := hS (xs (nI i + nI 1).toNatClampNeg) σ μ hR
  refine L_aload_n C 1 dL_law_303 rfl rfl ?_
  refine L_aload_n C 0 dL_law_304 rfl rfl ?_
  refine L_iload_n C 3 dL_law_305 rfl rfl ?_
  refine L_iconst C (w := nI 1) dL_law_306 (by decide) ?_
  refine L_iadd C dL_law_307 ?_
  refine L_sld C (li_add hi hL (by decide)) dL_law_308 ?_
  refine L_callX (As := [.int (xs (nI i + nI 1).toNatClampNeg)]) (st := []) (vr := fun _ => some (.int r)) C (X9_force_ok hx) mw_X9_force.1 mw_X9_force.2.1 mw_X9_force.2.2 qL_37 rfl rfl rfl rfl (Nat.le_of_ble_eq_true rfl) (Nat.le_of_ble_eq_true rfl) (Nat.le_of_ble_eq_true rfl) (Nat.le_refl _) (Nat.le_refl _) dL_law_309 ?_
  refine L_aload_n C 2 dL_law_312 rfl rfl ?_
  refine L_aload_n C 0 dL_law_313 rfl rfl ?_
  refine L_iload_n C 3 dL_law_314 rfl rfl ?_
  refine L_iconst C (w := nI 1) dL_law_315 (by decide) ?_
  refine L_iadd C dL_law_316 ?_
  refine L_sld C (li_add hi hL (by decide)) dL_law_317 ?_
  refine L_callM (As := [.int (xs (nI i + nI 1).toNatClampNeg)]) (st := [.int r]) (vr := fun _ => some (.int r)) C (X10_force_ok hm) mw_X10_force.1 mw_X10_force.2.1 mw_X10_force.2.2 qL_40 rfl rfl rfl rfl (Nat.le_of_ble_eq_true rfl) (Nat.le_of_ble_eq_true rfl) (Nat.le_of_ble_eq_true rfl) (Nat.le_refl _) (Nat.le_refl _) dL_law_318 ?_
  refine L_icmp_eqT C 914 dL_law_321 (by decide) rfl ?_
  exact kk _ _ hR1
set_option maxRecDepth 100000 in
set_option maxHeartbeats 4000000 in
theorem law_c6 {p : Program} {l : Launch} {e : Env} {s : State} {m : MethodId} {below : List Frame} {meth : Method} {c : Code} {G : Gx} {am : Nat → Nat} {b L : Nat} {xs : Nat → Int32} {A : Nat → Prop} {Q : State → Prop} {Rel : St → St → Prop} (hS : Sim_evening Rel) (C : OKL G am p s m #[Value.ref b] meth c b L xs A) (hL : L ≤ 3072) {i : Nat} (hi : i + 6 ≤ L) {σ μ : St} (hR : Rel σ μ) (kk : ∀ σ μ, Rel σ μ → Lw G am p l e room_1 s m #[Value.ref b] below meth c A 600000 7302250 Q σ μ 914 [(0, .ref b), (1, .ref (G.2.1 0)), (2, .ref (am 0)), (3, .int (nI i))] []) : Lw G am p l e room_1 s m #[Value.ref b] below meth c A 600000 7302250 Q σ μ 326 [(0, .ref b), (1, .ref (G.2.1 0)), (2, .ref (am 0)), (3, .int (nI i))] [] := by
  obtain ⟨r, σ1, μ1, hx, hm, hR1⟩ := hS (xs (nI i + nI 1).toNatClampNeg) (xs (nI i + nI 2).toNatClampNeg) σ μ hR
  refine L_aload_n C 1 dL_law_326 rfl rfl ?_
  refine L_aload_n C 0 dL_law_327 rfl rfl ?_
  refine L_iload_n C 3 dL_law_328 rfl rfl ?_
  refine L_iconst C (w := nI 1) dL_law_329 (by decide) ?_
  refine L_iadd C dL_law_330 ?_
  refine L_sld C (li_add hi hL (by decide)) dL_law_331 ?_
  refine L_aload_n C 0 dL_law_332 rfl rfl ?_
  refine L_iload_n C 3 dL_law_333 rfl rfl ?_
  refine L_iconst C (w := nI 2) dL_law_334 (by decide) ?_
  refine L_iadd C dL_law_335 ?_
  refine L_sld C (li_add hi hL (by decide)) dL_law_336 ?_
  refine L_callX (As := [.int (xs (nI i + nI 1).toNatClampNeg), .int (xs (nI i + nI 2).toNatClampNeg)]) (st := []) (vr := fun _ => some (.int r)) C (X9_evening_ok hx) mw_X9_evening.1 mw_X9_evening.2.1 mw_X9_evening.2.2 qL_41 rfl rfl rfl rfl (Nat.le_of_ble_eq_true rfl) (Nat.le_of_ble_eq_true rfl) (Nat.le_of_ble_eq_true rfl) (Nat.le_refl _) (Nat.le_refl _) dL_law_337 ?_
  refine L_aload_n C 2 dL_law_340 rfl rfl ?_
  refine L_aload_n C 0 dL_law_341 rfl rfl ?_
  refine L_iload_n C 3 dL_law_342 rfl rfl ?_
  refine L_iconst C (w := nI 1) dL_law_343 (by decide) ?_
  refine L_iadd C dL_law_344 ?_
  refine L_sld C (li_add hi hL (by decide)) dL_law_345 ?_
  refine L_aload_n C 0 dL_law_346 rfl rfl ?_
  refine L_iload_n C 3 dL_law_347 rfl rfl ?_
  refine L_iconst C (w := nI 2) dL_law_348 (by decide) ?_
  refine L_iadd C dL_law_349 ?_
  refine L_sld C (li_add hi hL (by decide)) dL_law_350 ?_
  refine L_callM (As := [.int (xs (nI i + nI 1).toNatClampNeg), .int (xs (nI i + nI 2).toNatClampNeg)]) (st := [.int r]) (vr := fun _ => some (.int r)) C (X10_evening_ok hm) mw_X10_evening.1 mw_X10_evening.2.1 mw_X10_evening.2.2 qL_44 rfl rfl rfl rfl (Nat.le_of_ble_eq_true rfl) (Nat.le_of_ble_eq_true rfl) (Nat.le_of_ble_eq_true rfl) (Nat.le_refl _) (Nat.le_refl _) dL_law_351 ?_
  refine L_icmp_eqT C 914 dL_law_354 (by decide) rfl ?_
  exact kk _ _ hR1
set_option maxRecDepth 100000 in
set_option maxHeartbeats 4000000 in
theorem law_c7 {p : Program} {l : Launch} {e : Env} {s : State} {m : MethodId} {below : List Frame} {meth : Method} {c : Code} {G : Gx} {am : Nat → Nat} {b L : Nat} {xs : Nat → Int32} {A : Nat → Prop} {Q : State → Prop} {Rel : St → St → Prop} (hS : Sim_hold Rel) (C : OKL G am p s m #[Value.ref b] meth c b L xs A) (hL : L ≤ 3072) {i : Nat} (hi : i + 6 ≤ L) {σ μ : St} (hR : Rel σ μ) (kk : ∀ σ μ, Rel σ μ → Lw G am p l e room_1 s m #[Value.ref b] below meth c A 600000 7302250 Q σ μ 914 [(0, .ref b), (1, .ref (G.2.1 0)), (2, .ref (am 0)), (3, .int (nI i))] []) : Lw G am p l e room_1 s m #[Value.ref b] below meth c A 600000 7302250 Q σ μ 359 [(0, .ref b), (1, .ref (G.2.1 0)), (2, .ref (am 0)), (3, .int (nI i))] [] := by
  obtain ⟨r, σ1, μ1, hx, hm, hR1⟩ := hS (xs (nI i + nI 1).toNatClampNeg) σ μ hR
  refine L_aload_n C 1 dL_law_359 rfl rfl ?_
  refine L_aload_n C 0 dL_law_360 rfl rfl ?_
  refine L_iload_n C 3 dL_law_361 rfl rfl ?_
  refine L_iconst C (w := nI 1) dL_law_362 (by decide) ?_
  refine L_iadd C dL_law_363 ?_
  refine L_sld C (li_add hi hL (by decide)) dL_law_364 ?_
  refine L_callX (As := [.int (xs (nI i + nI 1).toNatClampNeg)]) (st := []) (vr := fun _ => some (.int r)) C (X9_hold_ok hx) mw_X9_hold.1 mw_X9_hold.2.1 mw_X9_hold.2.2 qL_45 rfl rfl rfl rfl (Nat.le_of_ble_eq_true rfl) (Nat.le_of_ble_eq_true rfl) (Nat.le_of_ble_eq_true rfl) (Nat.le_refl _) (Nat.le_refl _) dL_law_365 ?_
  refine L_aload_n C 2 dL_law_368 rfl rfl ?_
  refine L_aload_n C 0 dL_law_369 rfl rfl ?_
  refine L_iload_n C 3 dL_law_370 rfl rfl ?_
  refine L_iconst C (w := nI 1) dL_law_371 (by decide) ?_
  refine L_iadd C dL_law_372 ?_
  refine L_sld C (li_add hi hL (by decide)) dL_law_373 ?_
  refine L_callM (As := [.int (xs (nI i + nI 1).toNatClampNeg)]) (st := [.int r]) (vr := fun _ => some (.int r)) C (X10_hold_ok hm) mw_X10_hold.1 mw_X10_hold.2.1 mw_X10_hold.2.2 qL_48 rfl rfl rfl rfl (Nat.le_of_ble_eq_true rfl) (Nat.le_of_ble_eq_true rfl) (Nat.le_of_ble_eq_true rfl) (Nat.le_refl _) (Nat.le_refl _) dL_law_374 ?_
  refine L_icmp_eqT C 914 dL_law_377 (by decide) rfl ?_
  exact kk _ _ hR1
set_option maxRecDepth 100000 in
set_option maxHeartbeats 4000000 in
theorem law_c8 {p : Program} {l : Launch} {e : Env} {s : State} {m : MethodId} {below : List Frame} {meth : Method} {c : Code} {G : Gx} {am : Nat → Nat} {b L : Nat} {xs : Nat → Int32} {A : Nat → Prop} {Q : State → Prop} {Rel : St → St → Prop} (hS : Sim_warmest Rel) (C : OKL G am p s m #[Value.ref b] meth c b L xs A) (hL : L ≤ 3072) {i : Nat} (hi : i + 6 ≤ L) {σ μ : St} (hR : Rel σ μ) (kk : ∀ σ μ, Rel σ μ → Lw G am p l e room_1 s m #[Value.ref b] below meth c A 600000 7302250 Q σ μ 914 [(0, .ref b), (1, .ref (G.2.1 0)), (2, .ref (am 0)), (3, .int (nI i))] []) : Lw G am p l e room_1 s m #[Value.ref b] below meth c A 600000 7302250 Q σ μ 382 [(0, .ref b), (1, .ref (G.2.1 0)), (2, .ref (am 0)), (3, .int (nI i))] [] := by
  obtain ⟨r, σ1, μ1, hx, hm, hR1⟩ := hS (xs (nI i + nI 1).toNatClampNeg) σ μ hR
  refine L_aload_n C 1 dL_law_382 rfl rfl ?_
  refine L_aload_n C 0 dL_law_383 rfl rfl ?_
  refine L_iload_n C 3 dL_law_384 rfl rfl ?_
  refine L_iconst C (w := nI 1) dL_law_385 (by decide) ?_
  refine L_iadd C dL_law_386 ?_
  refine L_sld C (li_add hi hL (by decide)) dL_law_387 ?_
  refine L_callX (As := [.int (xs (nI i + nI 1).toNatClampNeg)]) (st := []) (vr := fun _ => some (.int r)) C (X9_warmest_ok hx) mw_X9_warmest.1 mw_X9_warmest.2.1 mw_X9_warmest.2.2 qL_49 rfl rfl rfl rfl (Nat.le_of_ble_eq_true rfl) (Nat.le_of_ble_eq_true rfl) (Nat.le_of_ble_eq_true rfl) (Nat.le_refl _) (Nat.le_refl _) dL_law_388 ?_
  refine L_aload_n C 2 dL_law_391 rfl rfl ?_
  refine L_aload_n C 0 dL_law_392 rfl rfl ?_
  refine L_iload_n C 3 dL_law_393 rfl rfl ?_
  refine L_iconst C (w := nI 1) dL_law_394 (by decide) ?_
  refine L_iadd C dL_law_395 ?_
  refine L_sld C (li_add hi hL (by decide)) dL_law_396 ?_
  refine L_callM (As := [.int (xs (nI i + nI 1).toNatClampNeg)]) (st := [.int r]) (vr := fun _ => some (.int r)) C (X10_warmest_ok hm) mw_X10_warmest.1 mw_X10_warmest.2.1 mw_X10_warmest.2.2 qL_52 rfl rfl rfl rfl (Nat.le_of_ble_eq_true rfl) (Nat.le_of_ble_eq_true rfl) (Nat.le_of_ble_eq_true rfl) (Nat.le_refl _) (Nat.le_refl _) dL_law_397 ?_
  refine L_icmp_eqT C 914 dL_law_400 (by decide) rfl ?_
  exact kk _ _ hR1
set_option maxRecDepth 100000 in
set_option maxHeartbeats 4000000 in
theorem law_c9 {p : Program} {l : Launch} {e : Env} {s : State} {m : MethodId} {below : List Frame} {meth : Method} {c : Code} {G : Gx} {am : Nat → Nat} {b L : Nat} {xs : Nat → Int32} {A : Nat → Prop} {Q : State → Prop} {Rel : St → St → Prop} (hS : Sim_soonest Rel) (C : OKL G am p s m #[Value.ref b] meth c b L xs A) (hL : L ≤ 3072) {i : Nat} (hi : i + 6 ≤ L) {σ μ : St} (hR : Rel σ μ) (kk : ∀ σ μ, Rel σ μ → Lw G am p l e room_1 s m #[Value.ref b] below meth c A 600000 7302250 Q σ μ 914 [(0, .ref b), (1, .ref (G.2.1 0)), (2, .ref (am 0)), (3, .int (nI i))] []) : Lw G am p l e room_1 s m #[Value.ref b] below meth c A 600000 7302250 Q σ μ 405 [(0, .ref b), (1, .ref (G.2.1 0)), (2, .ref (am 0)), (3, .int (nI i))] [] := by
  obtain ⟨r, σ1, μ1, hx, hm, hR1⟩ := hS (xs (nI i + nI 1).toNatClampNeg) σ μ hR
  refine L_aload_n C 1 dL_law_405 rfl rfl ?_
  refine L_aload_n C 0 dL_law_406 rfl rfl ?_
  refine L_iload_n C 3 dL_law_407 rfl rfl ?_
  refine L_iconst C (w := nI 1) dL_law_408 (by decide) ?_
  refine L_iadd C dL_law_409 ?_
  refine L_sld C (li_add hi hL (by decide)) dL_law_410 ?_
  refine L_callX (As := [.int (xs (nI i + nI 1).toNatClampNeg)]) (st := []) (vr := fun _ => some (.int r)) C (X9_soonest_ok hx) mw_X9_soonest.1 mw_X9_soonest.2.1 mw_X9_soonest.2.2 qL_53 rfl rfl rfl rfl (Nat.le_of_ble_eq_true rfl) (Nat.le_of_ble_eq_true rfl) (Nat.le_of_ble_eq_true rfl) (Nat.le_refl _) (Nat.le_refl _) dL_law_411 ?_
  refine L_aload_n C 2 dL_law_414 rfl rfl ?_
  refine L_aload_n C 0 dL_law_415 rfl rfl ?_
  refine L_iload_n C 3 dL_law_416 rfl rfl ?_
  refine L_iconst C (w := nI 1) dL_law_417 (by decide) ?_
  refine L_iadd C dL_law_418 ?_
  refine L_sld C (li_add hi hL (by decide)) dL_law_419 ?_
  refine L_callM (As := [.int (xs (nI i + nI 1).toNatClampNeg)]) (st := [.int r]) (vr := fun _ => some (.int r)) C (X10_soonest_ok hm) mw_X10_soonest.1 mw_X10_soonest.2.1 mw_X10_soonest.2.2 qL_56 rfl rfl rfl rfl (Nat.le_of_ble_eq_true rfl) (Nat.le_of_ble_eq_true rfl) (Nat.le_of_ble_eq_true rfl) (Nat.le_refl _) (Nat.le_refl _) dL_law_420 ?_
  refine L_icmp_eqT C 914 dL_law_423 (by decide) rfl ?_
  exact kk _ _ hR1
set_option maxRecDepth 100000 in
set_option maxHeartbeats 4000000 in
theorem law_c10 {p : Program} {l : Launch} {e : Env} {s : State} {m : MethodId} {below : List Frame} {meth : Method} {c : Code} {G : Gx} {am : Nat → Nat} {b L : Nat} {xs : Nat → Int32} {A : Nat → Prop} {Q : State → Prop} {Rel : St → St → Prop} (hS : Sim_ratherNot Rel) (C : OKL G am p s m #[Value.ref b] meth c b L xs A) (hL : L ≤ 3072) {i : Nat} (hi : i + 6 ≤ L) {σ μ : St} (hR : Rel σ μ) (kk : ∀ σ μ, Rel σ μ → Lw G am p l e room_1 s m #[Value.ref b] below meth c A 600000 7302250 Q σ μ 914 [(0, .ref b), (1, .ref (G.2.1 0)), (2, .ref (am 0)), (3, .int (nI i))] []) : Lw G am p l e room_1 s m #[Value.ref b] below meth c A 600000 7302250 Q σ μ 428 [(0, .ref b), (1, .ref (G.2.1 0)), (2, .ref (am 0)), (3, .int (nI i))] [] := by
  obtain ⟨r, σ1, μ1, hx, hm, hR1⟩ := hS (xs (nI i + nI 1).toNatClampNeg) σ μ hR
  refine L_aload_n C 1 dL_law_428 rfl rfl ?_
  refine L_aload_n C 0 dL_law_429 rfl rfl ?_
  refine L_iload_n C 3 dL_law_430 rfl rfl ?_
  refine L_iconst C (w := nI 1) dL_law_431 (by decide) ?_
  refine L_iadd C dL_law_432 ?_
  refine L_sld C (li_add hi hL (by decide)) dL_law_433 ?_
  refine L_callX (As := [.int (xs (nI i + nI 1).toNatClampNeg)]) (st := []) (vr := fun _ => some (.int r)) C (X9_ratherNot_ok hx) mw_X9_ratherNot.1 mw_X9_ratherNot.2.1 mw_X9_ratherNot.2.2 qL_57 rfl rfl rfl rfl (Nat.le_of_ble_eq_true rfl) (Nat.le_of_ble_eq_true rfl) (Nat.le_of_ble_eq_true rfl) (Nat.le_refl _) (Nat.le_refl _) dL_law_434 ?_
  refine L_aload_n C 2 dL_law_437 rfl rfl ?_
  refine L_aload_n C 0 dL_law_438 rfl rfl ?_
  refine L_iload_n C 3 dL_law_439 rfl rfl ?_
  refine L_iconst C (w := nI 1) dL_law_440 (by decide) ?_
  refine L_iadd C dL_law_441 ?_
  refine L_sld C (li_add hi hL (by decide)) dL_law_442 ?_
  refine L_callM (As := [.int (xs (nI i + nI 1).toNatClampNeg)]) (st := [.int r]) (vr := fun _ => some (.int r)) C (X10_ratherNot_ok hm) mw_X10_ratherNot.1 mw_X10_ratherNot.2.1 mw_X10_ratherNot.2.2 qL_60 rfl rfl rfl rfl (Nat.le_of_ble_eq_true rfl) (Nat.le_of_ble_eq_true rfl) (Nat.le_of_ble_eq_true rfl) (Nat.le_refl _) (Nat.le_refl _) dL_law_443 ?_
  refine L_icmp_eqT C 914 dL_law_446 (by decide) rfl ?_
  exact kk _ _ hR1
set_option maxRecDepth 100000 in
set_option maxHeartbeats 4000000 in
theorem law_c11 {p : Program} {l : Launch} {e : Env} {s : State} {m : MethodId} {below : List Frame} {meth : Method} {c : Code} {G : Gx} {am : Nat → Nat} {b L : Nat} {xs : Nat → Int32} {A : Nat → Prop} {Q : State → Prop} {Rel : St → St → Prop} (hS : Sim_topic Rel) (C : OKL G am p s m #[Value.ref b] meth c b L xs A) (hL : L ≤ 3072) {i : Nat} (hi : i + 6 ≤ L) {σ μ : St} (hR : Rel σ μ) (kk : ∀ σ μ, Rel σ μ → Lw G am p l e room_1 s m #[Value.ref b] below meth c A 600000 7302250 Q σ μ 914 [(0, .ref b), (1, .ref (G.2.1 0)), (2, .ref (am 0)), (3, .int (nI i))] []) : Lw G am p l e room_1 s m #[Value.ref b] below meth c A 600000 7302250 Q σ μ 451 [(0, .ref b), (1, .ref (G.2.1 0)), (2, .ref (am 0)), (3, .int (nI i))] [] := by
  obtain ⟨r, σ1, μ1, hx, hm, hR1⟩ := hS (xs (nI i + nI 1).toNatClampNeg) (xs (nI i + nI 2).toNatClampNeg) σ μ hR
  refine L_aload_n C 1 dL_law_451 rfl rfl ?_
  refine L_aload_n C 0 dL_law_452 rfl rfl ?_
  refine L_iload_n C 3 dL_law_453 rfl rfl ?_
  refine L_iconst C (w := nI 1) dL_law_454 (by decide) ?_
  refine L_iadd C dL_law_455 ?_
  refine L_sld C (li_add hi hL (by decide)) dL_law_456 ?_
  refine L_aload_n C 0 dL_law_457 rfl rfl ?_
  refine L_iload_n C 3 dL_law_458 rfl rfl ?_
  refine L_iconst C (w := nI 2) dL_law_459 (by decide) ?_
  refine L_iadd C dL_law_460 ?_
  refine L_sld C (li_add hi hL (by decide)) dL_law_461 ?_
  refine L_callX (As := [.int (xs (nI i + nI 1).toNatClampNeg), .int (xs (nI i + nI 2).toNatClampNeg)]) (st := []) (vr := fun _ => some (.int r)) C (X9_topic_ok hx) mw_X9_topic.1 mw_X9_topic.2.1 mw_X9_topic.2.2 qL_61 rfl rfl rfl rfl (Nat.le_of_ble_eq_true rfl) (Nat.le_of_ble_eq_true rfl) (Nat.le_of_ble_eq_true rfl) (Nat.le_refl _) (Nat.le_refl _) dL_law_462 ?_
  refine L_aload_n C 2 dL_law_465 rfl rfl ?_
  refine L_aload_n C 0 dL_law_466 rfl rfl ?_
  refine L_iload_n C 3 dL_law_467 rfl rfl ?_
  refine L_iconst C (w := nI 1) dL_law_468 (by decide) ?_
  refine L_iadd C dL_law_469 ?_
  refine L_sld C (li_add hi hL (by decide)) dL_law_470 ?_
  refine L_aload_n C 0 dL_law_471 rfl rfl ?_
  refine L_iload_n C 3 dL_law_472 rfl rfl ?_
  refine L_iconst C (w := nI 2) dL_law_473 (by decide) ?_
  refine L_iadd C dL_law_474 ?_
  refine L_sld C (li_add hi hL (by decide)) dL_law_475 ?_
  refine L_callM (As := [.int (xs (nI i + nI 1).toNatClampNeg), .int (xs (nI i + nI 2).toNatClampNeg)]) (st := [.int r]) (vr := fun _ => some (.int r)) C (X10_topic_ok hm) mw_X10_topic.1 mw_X10_topic.2.1 mw_X10_topic.2.2 qL_64 rfl rfl rfl rfl (Nat.le_of_ble_eq_true rfl) (Nat.le_of_ble_eq_true rfl) (Nat.le_of_ble_eq_true rfl) (Nat.le_refl _) (Nat.le_refl _) dL_law_476 ?_
  refine L_icmp_eqT C 914 dL_law_479 (by decide) rfl ?_
  exact kk _ _ hR1
set_option maxRecDepth 100000 in
set_option maxHeartbeats 4000000 in
theorem law_c12 {p : Program} {l : Launch} {e : Env} {s : State} {m : MethodId} {below : List Frame} {meth : Method} {c : Code} {G : Gx} {am : Nat → Nat} {b L : Nat} {xs : Nat → Int32} {A : Nat → Prop} {Q : State → Prop} {Rel : St → St → Prop} (hS : Sim_turns Rel) (C : OKL G am p s m #[Value.ref b] meth c b L xs A) (hL : L ≤ 3072) {i : Nat} (hi : i + 6 ≤ L) {σ μ : St} (hR : Rel σ μ) (kk : ∀ σ μ, Rel σ μ → Lw G am p l e room_1 s m #[Value.ref b] below meth c A 600000 7302250 Q σ μ 914 [(0, .ref b), (1, .ref (G.2.1 0)), (2, .ref (am 0)), (3, .int (nI i))] []) : Lw G am p l e room_1 s m #[Value.ref b] below meth c A 600000 7302250 Q σ μ 484 [(0, .ref b), (1, .ref (G.2.1 0)), (2, .ref (am 0)), (3, .int (nI i))] [] := by
  obtain ⟨r, σ1, μ1, hx, hm, hR1⟩ := hS (xs (nI i + nI 1).toNatClampNeg) σ μ hR
  refine L_aload_n C 1 dL_law_484 rfl rfl ?_
  refine L_aload_n C 0 dL_law_485 rfl rfl ?_
  refine L_iload_n C 3 dL_law_486 rfl rfl ?_
  refine L_iconst C (w := nI 1) dL_law_487 (by decide) ?_
  refine L_iadd C dL_law_488 ?_
  refine L_sld C (li_add hi hL (by decide)) dL_law_489 ?_
  refine L_callX (As := [.int (xs (nI i + nI 1).toNatClampNeg)]) (st := []) (vr := fun _ => some (.int r)) C (X9_turns_ok hx) mw_X9_turns.1 mw_X9_turns.2.1 mw_X9_turns.2.2 qL_65 rfl rfl rfl rfl (Nat.le_of_ble_eq_true rfl) (Nat.le_of_ble_eq_true rfl) (Nat.le_of_ble_eq_true rfl) (Nat.le_refl _) (Nat.le_refl _) dL_law_490 ?_
  refine L_aload_n C 2 dL_law_493 rfl rfl ?_
  refine L_aload_n C 0 dL_law_494 rfl rfl ?_
  refine L_iload_n C 3 dL_law_495 rfl rfl ?_
  refine L_iconst C (w := nI 1) dL_law_496 (by decide) ?_
  refine L_iadd C dL_law_497 ?_
  refine L_sld C (li_add hi hL (by decide)) dL_law_498 ?_
  refine L_callM (As := [.int (xs (nI i + nI 1).toNatClampNeg)]) (st := [.int r]) (vr := fun _ => some (.int r)) C (X10_turns_ok hm) mw_X10_turns.1 mw_X10_turns.2.1 mw_X10_turns.2.2 qL_68 rfl rfl rfl rfl (Nat.le_of_ble_eq_true rfl) (Nat.le_of_ble_eq_true rfl) (Nat.le_of_ble_eq_true rfl) (Nat.le_refl _) (Nat.le_refl _) dL_law_499 ?_
  refine L_icmp_eqT C 914 dL_law_502 (by decide) rfl ?_
  exact kk _ _ hR1
set_option maxRecDepth 100000 in
set_option maxHeartbeats 4000000 in
theorem law_c13 {p : Program} {l : Launch} {e : Env} {s : State} {m : MethodId} {below : List Frame} {meth : Method} {c : Code} {G : Gx} {am : Nat → Nat} {b L : Nat} {xs : Nat → Int32} {A : Nat → Prop} {Q : State → Prop} {Rel : St → St → Prop} (hS : Sim_tells Rel) (C : OKL G am p s m #[Value.ref b] meth c b L xs A) (hL : L ≤ 3072) {i : Nat} (hi : i + 6 ≤ L) {σ μ : St} (hR : Rel σ μ) (kk : ∀ σ μ, Rel σ μ → Lw G am p l e room_1 s m #[Value.ref b] below meth c A 600000 7302250 Q σ μ 914 [(0, .ref b), (1, .ref (G.2.1 0)), (2, .ref (am 0)), (3, .int (nI i))] []) : Lw G am p l e room_1 s m #[Value.ref b] below meth c A 600000 7302250 Q σ μ 507 [(0, .ref b), (1, .ref (G.2.1 0)), (2, .ref (am 0)), (3, .int (nI i))] [] := by
  obtain ⟨r, σ1, μ1, hx, hm, hR1⟩ := hS (xs (nI i + nI 1).toNatClampNeg) (xs (nI i + nI 2).toNatClampNeg) σ μ hR
  refine L_aload_n C 1 dL_law_507 rfl rfl ?_
  refine L_aload_n C 0 dL_law_508 rfl rfl ?_
  refine L_iload_n C 3 dL_law_509 rfl rfl ?_
  refine L_iconst C (w := nI 1) dL_law_510 (by decide) ?_
  refine L_iadd C dL_law_511 ?_
  refine L_sld C (li_add hi hL (by decide)) dL_law_512 ?_
  refine L_aload_n C 0 dL_law_513 rfl rfl ?_
  refine L_iload_n C 3 dL_law_514 rfl rfl ?_
  refine L_iconst C (w := nI 2) dL_law_515 (by decide) ?_
  refine L_iadd C dL_law_516 ?_
  refine L_sld C (li_add hi hL (by decide)) dL_law_517 ?_
  refine L_callX (As := [.int (xs (nI i + nI 1).toNatClampNeg), .int (xs (nI i + nI 2).toNatClampNeg)]) (st := []) (vr := fun _ => some (.int r)) C (X9_tells_ok hx) mw_X9_tells.1 mw_X9_tells.2.1 mw_X9_tells.2.2 qL_69 rfl rfl rfl rfl (Nat.le_of_ble_eq_true rfl) (Nat.le_of_ble_eq_true rfl) (Nat.le_of_ble_eq_true rfl) (Nat.le_refl _) (Nat.le_refl _) dL_law_518 ?_
  refine L_aload_n C 2 dL_law_521 rfl rfl ?_
  refine L_aload_n C 0 dL_law_522 rfl rfl ?_
  refine L_iload_n C 3 dL_law_523 rfl rfl ?_
  refine L_iconst C (w := nI 1) dL_law_524 (by decide) ?_
  refine L_iadd C dL_law_525 ?_
  refine L_sld C (li_add hi hL (by decide)) dL_law_526 ?_
  refine L_aload_n C 0 dL_law_527 rfl rfl ?_
  refine L_iload_n C 3 dL_law_528 rfl rfl ?_
  refine L_iconst C (w := nI 2) dL_law_529 (by decide) ?_
  refine L_iadd C dL_law_530 ?_
  refine L_sld C (li_add hi hL (by decide)) dL_law_531 ?_
  refine L_callM (As := [.int (xs (nI i + nI 1).toNatClampNeg), .int (xs (nI i + nI 2).toNatClampNeg)]) (st := [.int r]) (vr := fun _ => some (.int r)) C (X10_tells_ok hm) mw_X10_tells.1 mw_X10_tells.2.1 mw_X10_tells.2.2 qL_72 rfl rfl rfl rfl (Nat.le_of_ble_eq_true rfl) (Nat.le_of_ble_eq_true rfl) (Nat.le_of_ble_eq_true rfl) (Nat.le_refl _) (Nat.le_refl _) dL_law_532 ?_
  refine L_icmp_eqT C 914 dL_law_535 (by decide) rfl ?_
  exact kk _ _ hR1
set_option maxRecDepth 100000 in
set_option maxHeartbeats 4000000 in
theorem law_c14 {p : Program} {l : Launch} {e : Env} {s : State} {m : MethodId} {below : List Frame} {meth : Method} {c : Code} {G : Gx} {am : Nat → Nat} {b L : Nat} {xs : Nat → Int32} {A : Nat → Prop} {Q : State → Prop} {Rel : St → St → Prop} (hS : Sim_film Rel) (C : OKL G am p s m #[Value.ref b] meth c b L xs A) (hL : L ≤ 3072) {i : Nat} (hi : i + 6 ≤ L) {σ μ : St} (hR : Rel σ μ) (kk : ∀ σ μ, Rel σ μ → Lw G am p l e room_1 s m #[Value.ref b] below meth c A 600000 7302250 Q σ μ 914 [(0, .ref b), (1, .ref (G.2.1 0)), (2, .ref (am 0)), (3, .int (nI i))] []) : Lw G am p l e room_1 s m #[Value.ref b] below meth c A 600000 7302250 Q σ μ 540 [(0, .ref b), (1, .ref (G.2.1 0)), (2, .ref (am 0)), (3, .int (nI i))] [] := by
  obtain ⟨r, σ1, μ1, hx, hm, hR1⟩ := hS (xs (nI i + nI 1).toNatClampNeg) σ μ hR
  refine L_aload_n C 1 dL_law_540 rfl rfl ?_
  refine L_aload_n C 0 dL_law_541 rfl rfl ?_
  refine L_iload_n C 3 dL_law_542 rfl rfl ?_
  refine L_iconst C (w := nI 1) dL_law_543 (by decide) ?_
  refine L_iadd C dL_law_544 ?_
  refine L_sld C (li_add hi hL (by decide)) dL_law_545 ?_
  refine L_callX (As := [.int (xs (nI i + nI 1).toNatClampNeg)]) (st := []) (vr := fun _ => some (.int r)) C (X9_film_ok hx) mw_X9_film.1 mw_X9_film.2.1 mw_X9_film.2.2 qL_73 rfl rfl rfl rfl (Nat.le_of_ble_eq_true rfl) (Nat.le_of_ble_eq_true rfl) (Nat.le_of_ble_eq_true rfl) (Nat.le_refl _) (Nat.le_refl _) dL_law_546 ?_
  refine L_aload_n C 2 dL_law_549 rfl rfl ?_
  refine L_aload_n C 0 dL_law_550 rfl rfl ?_
  refine L_iload_n C 3 dL_law_551 rfl rfl ?_
  refine L_iconst C (w := nI 1) dL_law_552 (by decide) ?_
  refine L_iadd C dL_law_553 ?_
  refine L_sld C (li_add hi hL (by decide)) dL_law_554 ?_
  refine L_callM (As := [.int (xs (nI i + nI 1).toNatClampNeg)]) (st := [.int r]) (vr := fun _ => some (.int r)) C (X10_film_ok hm) mw_X10_film.1 mw_X10_film.2.1 mw_X10_film.2.2 qL_76 rfl rfl rfl rfl (Nat.le_of_ble_eq_true rfl) (Nat.le_of_ble_eq_true rfl) (Nat.le_of_ble_eq_true rfl) (Nat.le_refl _) (Nat.le_refl _) dL_law_555 ?_
  refine L_icmp_eqT C 914 dL_law_558 (by decide) rfl ?_
  exact kk _ _ hR1
set_option maxRecDepth 100000 in
set_option maxHeartbeats 4000000 in
theorem law_c15 {p : Program} {l : Launch} {e : Env} {s : State} {m : MethodId} {below : List Frame} {meth : Method} {c : Code} {G : Gx} {am : Nat → Nat} {b L : Nat} {xs : Nat → Int32} {A : Nat → Prop} {Q : State → Prop} {Rel : St → St → Prop} (hS : Sim_drawn Rel) (C : OKL G am p s m #[Value.ref b] meth c b L xs A) (hL : L ≤ 3072) {i : Nat} (hi : i + 6 ≤ L) {σ μ : St} (hR : Rel σ μ) (kk : ∀ σ μ, Rel σ μ → Lw G am p l e room_1 s m #[Value.ref b] below meth c A 600000 7302250 Q σ μ 914 [(0, .ref b), (1, .ref (G.2.1 0)), (2, .ref (am 0)), (3, .int (nI i))] []) : Lw G am p l e room_1 s m #[Value.ref b] below meth c A 600000 7302250 Q σ μ 563 [(0, .ref b), (1, .ref (G.2.1 0)), (2, .ref (am 0)), (3, .int (nI i))] [] := by
  obtain ⟨r, σ1, μ1, hx, hm, hR1⟩ := hS (xs (nI i + nI 1).toNatClampNeg) σ μ hR
  refine L_aload_n C 1 dL_law_563 rfl rfl ?_
  refine L_aload_n C 0 dL_law_564 rfl rfl ?_
  refine L_iload_n C 3 dL_law_565 rfl rfl ?_
  refine L_iconst C (w := nI 1) dL_law_566 (by decide) ?_
  refine L_iadd C dL_law_567 ?_
  refine L_sld C (li_add hi hL (by decide)) dL_law_568 ?_
  refine L_callX (As := [.int (xs (nI i + nI 1).toNatClampNeg)]) (st := []) (vr := fun _ => some (.int r)) C (X9_drawn_ok hx) mw_X9_drawn.1 mw_X9_drawn.2.1 mw_X9_drawn.2.2 qL_77 rfl rfl rfl rfl (Nat.le_of_ble_eq_true rfl) (Nat.le_of_ble_eq_true rfl) (Nat.le_of_ble_eq_true rfl) (Nat.le_refl _) (Nat.le_refl _) dL_law_569 ?_
  refine L_aload_n C 2 dL_law_572 rfl rfl ?_
  refine L_aload_n C 0 dL_law_573 rfl rfl ?_
  refine L_iload_n C 3 dL_law_574 rfl rfl ?_
  refine L_iconst C (w := nI 1) dL_law_575 (by decide) ?_
  refine L_iadd C dL_law_576 ?_
  refine L_sld C (li_add hi hL (by decide)) dL_law_577 ?_
  refine L_callM (As := [.int (xs (nI i + nI 1).toNatClampNeg)]) (st := [.int r]) (vr := fun _ => some (.int r)) C (X10_drawn_ok hm) mw_X10_drawn.1 mw_X10_drawn.2.1 mw_X10_drawn.2.2 qL_80 rfl rfl rfl rfl (Nat.le_of_ble_eq_true rfl) (Nat.le_of_ble_eq_true rfl) (Nat.le_of_ble_eq_true rfl) (Nat.le_refl _) (Nat.le_refl _) dL_law_578 ?_
  refine L_icmp_eqT C 914 dL_law_581 (by decide) rfl ?_
  exact kk _ _ hR1
set_option maxRecDepth 100000 in
set_option maxHeartbeats 4000000 in
theorem law_c16 {p : Program} {l : Launch} {e : Env} {s : State} {m : MethodId} {below : List Frame} {meth : Method} {c : Code} {G : Gx} {am : Nat → Nat} {b L : Nat} {xs : Nat → Int32} {A : Nat → Prop} {Q : State → Prop} {Rel : St → St → Prop} (hS : Sim_chance Rel) (C : OKL G am p s m #[Value.ref b] meth c b L xs A) (hL : L ≤ 3072) {i : Nat} (hi : i + 6 ≤ L) {σ μ : St} (hR : Rel σ μ) (kk : ∀ σ μ, Rel σ μ → Lw G am p l e room_1 s m #[Value.ref b] below meth c A 600000 7302250 Q σ μ 914 [(0, .ref b), (1, .ref (G.2.1 0)), (2, .ref (am 0)), (3, .int (nI i))] []) : Lw G am p l e room_1 s m #[Value.ref b] below meth c A 600000 7302250 Q σ μ 586 [(0, .ref b), (1, .ref (G.2.1 0)), (2, .ref (am 0)), (3, .int (nI i))] [] := by
  obtain ⟨r, σ1, μ1, hx, hm, hR1⟩ := hS (xs (nI i + nI 1).toNatClampNeg) (xs (nI i + nI 2).toNatClampNeg) (xs (nI i + nI 3).toNatClampNeg) σ μ hR
  refine L_aload_n C 1 dL_law_586 rfl rfl ?_
  refine L_aload_n C 0 dL_law_587 rfl rfl ?_
  refine L_iload_n C 3 dL_law_588 rfl rfl ?_
  refine L_iconst C (w := nI 1) dL_law_589 (by decide) ?_
  refine L_iadd C dL_law_590 ?_
  refine L_sld C (li_add hi hL (by decide)) dL_law_591 ?_
  refine L_aload_n C 0 dL_law_592 rfl rfl ?_
  refine L_iload_n C 3 dL_law_593 rfl rfl ?_
  refine L_iconst C (w := nI 2) dL_law_594 (by decide) ?_
  refine L_iadd C dL_law_595 ?_
  refine L_sld C (li_add hi hL (by decide)) dL_law_596 ?_
  refine L_aload_n C 0 dL_law_597 rfl rfl ?_
  refine L_iload_n C 3 dL_law_598 rfl rfl ?_
  refine L_iconst C (w := nI 3) dL_law_599 (by decide) ?_
  refine L_iadd C dL_law_600 ?_
  refine L_sld C (li_add hi hL (by decide)) dL_law_601 ?_
  refine L_callX (As := [.int (xs (nI i + nI 1).toNatClampNeg), .int (xs (nI i + nI 2).toNatClampNeg), .int (xs (nI i + nI 3).toNatClampNeg)]) (st := []) (vr := fun _ => some (.long r)) C (X9_chance_ok hx) mw_X9_chance.1 mw_X9_chance.2.1 mw_X9_chance.2.2 qL_81 rfl rfl rfl rfl (Nat.le_of_ble_eq_true rfl) (Nat.le_of_ble_eq_true rfl) (Nat.le_of_ble_eq_true rfl) (Nat.le_refl _) (Nat.le_refl _) dL_law_602 ?_
  refine L_aload_n C 2 dL_law_605 rfl rfl ?_
  refine L_aload_n C 0 dL_law_606 rfl rfl ?_
  refine L_iload_n C 3 dL_law_607 rfl rfl ?_
  refine L_iconst C (w := nI 1) dL_law_608 (by decide) ?_
  refine L_iadd C dL_law_609 ?_
  refine L_sld C (li_add hi hL (by decide)) dL_law_610 ?_
  refine L_aload_n C 0 dL_law_611 rfl rfl ?_
  refine L_iload_n C 3 dL_law_612 rfl rfl ?_
  refine L_iconst C (w := nI 2) dL_law_613 (by decide) ?_
  refine L_iadd C dL_law_614 ?_
  refine L_sld C (li_add hi hL (by decide)) dL_law_615 ?_
  refine L_aload_n C 0 dL_law_616 rfl rfl ?_
  refine L_iload_n C 3 dL_law_617 rfl rfl ?_
  refine L_iconst C (w := nI 3) dL_law_618 (by decide) ?_
  refine L_iadd C dL_law_619 ?_
  refine L_sld C (li_add hi hL (by decide)) dL_law_620 ?_
  refine L_callM (As := [.int (xs (nI i + nI 1).toNatClampNeg), .int (xs (nI i + nI 2).toNatClampNeg), .int (xs (nI i + nI 3).toNatClampNeg)]) (st := [.long r]) (vr := fun _ => some (.long r)) C (X10_chance_ok hm) mw_X10_chance.1 mw_X10_chance.2.1 mw_X10_chance.2.2 qL_85 rfl rfl rfl rfl (Nat.le_of_ble_eq_true rfl) (Nat.le_of_ble_eq_true rfl) (Nat.le_of_ble_eq_true rfl) (Nat.le_refl _) (Nat.le_refl _) dL_law_621 ?_
  refine L_lcmp C dL_law_624 ?_
  refine L_if_eqT C 914 dL_law_625 (by decide) (lg_self r) ?_
  exact kk _ _ hR1
set_option maxRecDepth 100000 in
set_option maxHeartbeats 4000000 in
theorem law_c17 {p : Program} {l : Launch} {e : Env} {s : State} {m : MethodId} {below : List Frame} {meth : Method} {c : Code} {G : Gx} {am : Nat → Nat} {b L : Nat} {xs : Nat → Int32} {A : Nat → Prop} {Q : State → Prop} {Rel : St → St → Prop} (hS : Sim_image Rel) (C : OKL G am p s m #[Value.ref b] meth c b L xs A) (hL : L ≤ 3072) {i : Nat} (hi : i + 6 ≤ L) {σ μ : St} (hR : Rel σ μ) (kk : ∀ σ μ, Rel σ μ → Lw G am p l e room_1 s m #[Value.ref b] below meth c A 600000 7302250 Q σ μ 914 [(0, .ref b), (1, .ref (G.2.1 0)), (2, .ref (am 0)), (3, .int (nI i))] []) : Lw G am p l e room_1 s m #[Value.ref b] below meth c A 600000 7302250 Q σ μ 630 [(0, .ref b), (1, .ref (G.2.1 0)), (2, .ref (am 0)), (3, .int (nI i))] [] := by
  obtain ⟨r, σ1, μ1, hx, hm, hR1⟩ := hS  σ μ hR
  refine L_aload_n C 1 dL_law_630 rfl rfl ?_
  refine L_callX (As := []) (st := []) (vr := fun _ => some (.int r)) C (X9_image_ok hx) mw_X9_image.1 mw_X9_image.2.1 mw_X9_image.2.2 qL_86 rfl rfl rfl rfl (Nat.le_of_ble_eq_true rfl) (Nat.le_of_ble_eq_true rfl) (Nat.le_of_ble_eq_true rfl) (Nat.le_refl _) (Nat.le_refl _) dL_law_631 ?_
  refine L_aload_n C 2 dL_law_634 rfl rfl ?_
  refine L_callM (As := []) (st := [.int r]) (vr := fun _ => some (.int r)) C (X10_image_ok hm) mw_X10_image.1 mw_X10_image.2.1 mw_X10_image.2.2 qL_89 rfl rfl rfl rfl (Nat.le_of_ble_eq_true rfl) (Nat.le_of_ble_eq_true rfl) (Nat.le_of_ble_eq_true rfl) (Nat.le_refl _) (Nat.le_refl _) dL_law_635 ?_
  refine L_icmp_eqT C 914 dL_law_638 (by decide) rfl ?_
  exact kk _ _ hR1
set_option maxRecDepth 100000 in
set_option maxHeartbeats 4000000 in
theorem law_c18 {p : Program} {l : Launch} {e : Env} {s : State} {m : MethodId} {below : List Frame} {meth : Method} {c : Code} {G : Gx} {am : Nat → Nat} {b L : Nat} {xs : Nat → Int32} {A : Nat → Prop} {Q : State → Prop} {Rel : St → St → Prop} (hS : Sim_back Rel) (C : OKL G am p s m #[Value.ref b] meth c b L xs A) (hL : L ≤ 3072) {i : Nat} (hi : i + 6 ≤ L) {σ μ : St} (hR : Rel σ μ) (kk : ∀ σ μ, Rel σ μ → Lw G am p l e room_1 s m #[Value.ref b] below meth c A 600000 7302250 Q σ μ 914 [(0, .ref b), (1, .ref (G.2.1 0)), (2, .ref (am 0)), (3, .int (nI i))] []) : Lw G am p l e room_1 s m #[Value.ref b] below meth c A 600000 7302250 Q σ μ 643 [(0, .ref b), (1, .ref (G.2.1 0)), (2, .ref (am 0)), (3, .int (nI i))] [] := by
  obtain ⟨r, σ1, μ1, hx, hm, hR1⟩ := hS  σ μ hR
  refine L_aload_n C 1 dL_law_643 rfl rfl ?_
  refine L_callX (As := []) (st := []) (vr := fun _ => some (.int r)) C (X9_back_ok hx) mw_X9_back.1 mw_X9_back.2.1 mw_X9_back.2.2 qL_90 rfl rfl rfl rfl (Nat.le_of_ble_eq_true rfl) (Nat.le_of_ble_eq_true rfl) (Nat.le_of_ble_eq_true rfl) (Nat.le_refl _) (Nat.le_refl _) dL_law_644 ?_
  refine L_aload_n C 2 dL_law_647 rfl rfl ?_
  refine L_callM (As := []) (st := [.int r]) (vr := fun _ => some (.int r)) C (X10_back_ok hm) mw_X10_back.1 mw_X10_back.2.1 mw_X10_back.2.2 qL_93 rfl rfl rfl rfl (Nat.le_of_ble_eq_true rfl) (Nat.le_of_ble_eq_true rfl) (Nat.le_of_ble_eq_true rfl) (Nat.le_refl _) (Nat.le_refl _) dL_law_648 ?_
  refine L_icmp_eqT C 914 dL_law_651 (by decide) rfl ?_
  exact kk _ _ hR1
set_option maxRecDepth 100000 in
set_option maxHeartbeats 4000000 in
theorem law_c19 {p : Program} {l : Launch} {e : Env} {s : State} {m : MethodId} {below : List Frame} {meth : Method} {c : Code} {G : Gx} {am : Nat → Nat} {b L : Nat} {xs : Nat → Int32} {A : Nat → Prop} {Q : State → Prop} {Rel : St → St → Prop} (hS : Sim_count Rel) (C : OKL G am p s m #[Value.ref b] meth c b L xs A) (hL : L ≤ 3072) {i : Nat} (hi : i + 6 ≤ L) {σ μ : St} (hR : Rel σ μ) (kk : ∀ σ μ, Rel σ μ → Lw G am p l e room_1 s m #[Value.ref b] below meth c A 600000 7302250 Q σ μ 914 [(0, .ref b), (1, .ref (G.2.1 0)), (2, .ref (am 0)), (3, .int (nI i))] []) : Lw G am p l e room_1 s m #[Value.ref b] below meth c A 600000 7302250 Q σ μ 656 [(0, .ref b), (1, .ref (G.2.1 0)), (2, .ref (am 0)), (3, .int (nI i))] [] := by
  obtain ⟨r, hx, hm, hR1⟩ := hS (xs (nI i + nI 1).toNatClampNeg) σ μ hR
  refine L_aload_n C 1 dL_law_656 rfl rfl ?_
  refine L_aload_n C 0 dL_law_657 rfl rfl ?_
  refine L_iload_n C 3 dL_law_658 rfl rfl ?_
  refine L_iconst C (w := nI 1) dL_law_659 (by decide) ?_
  refine L_iadd C dL_law_660 ?_
  refine L_sld C (li_add hi hL (by decide)) dL_law_661 ?_
  refine L_callX (As := [.int (xs (nI i + nI 1).toNatClampNeg)]) (st := []) (vr := fun _ => some (.int r)) C (X9_count_ok hx) mw_X9_count.1 mw_X9_count.2.1 mw_X9_count.2.2 qL_94 rfl rfl rfl rfl (Nat.le_of_ble_eq_true rfl) (Nat.le_of_ble_eq_true rfl) (Nat.le_of_ble_eq_true rfl) (Nat.le_refl _) (Nat.le_refl _) dL_law_662 ?_
  refine L_aload_n C 2 dL_law_665 rfl rfl ?_
  refine L_aload_n C 0 dL_law_666 rfl rfl ?_
  refine L_iload_n C 3 dL_law_667 rfl rfl ?_
  refine L_iconst C (w := nI 1) dL_law_668 (by decide) ?_
  refine L_iadd C dL_law_669 ?_
  refine L_sld C (li_add hi hL (by decide)) dL_law_670 ?_
  refine L_callM (As := [.int (xs (nI i + nI 1).toNatClampNeg)]) (st := [.int r]) (vr := fun _ => some (.int r)) C (X10_count_ok hm) mw_X10_count.1 mw_X10_count.2.1 mw_X10_count.2.2 qL_97 rfl rfl rfl rfl (Nat.le_of_ble_eq_true rfl) (Nat.le_of_ble_eq_true rfl) (Nat.le_of_ble_eq_true rfl) (Nat.le_refl _) (Nat.le_refl _) dL_law_671 ?_
  refine L_icmp_eqT C 914 dL_law_674 (by decide) rfl ?_
  exact kk _ _ hR1
set_option maxRecDepth 100000 in
set_option maxHeartbeats 4000000 in
theorem law_c20 {p : Program} {l : Launch} {e : Env} {s : State} {m : MethodId} {below : List Frame} {meth : Method} {c : Code} {G : Gx} {am : Nat → Nat} {b L : Nat} {xs : Nat → Int32} {A : Nat → Prop} {Q : State → Prop} {Rel : St → St → Prop} (hS : Sim_sheet Rel) (C : OKL G am p s m #[Value.ref b] meth c b L xs A) (hL : L ≤ 3072) {i : Nat} (hi : i + 6 ≤ L) {σ μ : St} (hR : Rel σ μ) (kk : ∀ σ μ, Rel σ μ → Lw G am p l e room_1 s m #[Value.ref b] below meth c A 600000 7302250 Q σ μ 914 [(0, .ref b), (1, .ref (G.2.1 0)), (2, .ref (am 0)), (3, .int (nI i))] []) : Lw G am p l e room_1 s m #[Value.ref b] below meth c A 600000 7302250 Q σ μ 679 [(0, .ref b), (1, .ref (G.2.1 0)), (2, .ref (am 0)), (3, .int (nI i))] [] := by
  obtain ⟨r, σ1, μ1, hx, hm, hR1⟩ := hS (xs (nI i + nI 1).toNatClampNeg) (xs (nI i + nI 2).toNatClampNeg) (xs (nI i + nI 3).toNatClampNeg) σ μ hR
  refine L_aload_n C 1 dL_law_679 rfl rfl ?_
  refine L_aload_n C 0 dL_law_680 rfl rfl ?_
  refine L_iload_n C 3 dL_law_681 rfl rfl ?_
  refine L_iconst C (w := nI 1) dL_law_682 (by decide) ?_
  refine L_iadd C dL_law_683 ?_
  refine L_sld C (li_add hi hL (by decide)) dL_law_684 ?_
  refine L_aload_n C 0 dL_law_685 rfl rfl ?_
  refine L_iload_n C 3 dL_law_686 rfl rfl ?_
  refine L_iconst C (w := nI 2) dL_law_687 (by decide) ?_
  refine L_iadd C dL_law_688 ?_
  refine L_sld C (li_add hi hL (by decide)) dL_law_689 ?_
  refine L_aload_n C 0 dL_law_690 rfl rfl ?_
  refine L_iload_n C 3 dL_law_691 rfl rfl ?_
  refine L_iconst C (w := nI 3) dL_law_692 (by decide) ?_
  refine L_iadd C dL_law_693 ?_
  refine L_sld C (li_add hi hL (by decide)) dL_law_694 ?_
  refine L_callX (As := [.int (xs (nI i + nI 1).toNatClampNeg), .int (xs (nI i + nI 2).toNatClampNeg), .int (xs (nI i + nI 3).toNatClampNeg)]) (st := []) (vr := fun _ => some (.int r)) C (X9_sheet_ok hx) mw_X9_sheet.1 mw_X9_sheet.2.1 mw_X9_sheet.2.2 qL_98 rfl rfl rfl rfl (Nat.le_of_ble_eq_true rfl) (Nat.le_of_ble_eq_true rfl) (Nat.le_of_ble_eq_true rfl) (Nat.le_refl _) (Nat.le_refl _) dL_law_695 ?_
  refine L_aload_n C 2 dL_law_698 rfl rfl ?_
  refine L_aload_n C 0 dL_law_699 rfl rfl ?_
  refine L_iload_n C 3 dL_law_700 rfl rfl ?_
  refine L_iconst C (w := nI 1) dL_law_701 (by decide) ?_
  refine L_iadd C dL_law_702 ?_
  refine L_sld C (li_add hi hL (by decide)) dL_law_703 ?_
  refine L_aload_n C 0 dL_law_704 rfl rfl ?_
  refine L_iload_n C 3 dL_law_705 rfl rfl ?_
  refine L_iconst C (w := nI 2) dL_law_706 (by decide) ?_
  refine L_iadd C dL_law_707 ?_
  refine L_sld C (li_add hi hL (by decide)) dL_law_708 ?_
  refine L_aload_n C 0 dL_law_709 rfl rfl ?_
  refine L_iload_n C 3 dL_law_710 rfl rfl ?_
  refine L_iconst C (w := nI 3) dL_law_711 (by decide) ?_
  refine L_iadd C dL_law_712 ?_
  refine L_sld C (li_add hi hL (by decide)) dL_law_713 ?_
  refine L_callM (As := [.int (xs (nI i + nI 1).toNatClampNeg), .int (xs (nI i + nI 2).toNatClampNeg), .int (xs (nI i + nI 3).toNatClampNeg)]) (st := [.int r]) (vr := fun _ => some (.int r)) C (X10_sheet_ok hm) mw_X10_sheet.1 mw_X10_sheet.2.1 mw_X10_sheet.2.2 qL_101 rfl rfl rfl rfl (Nat.le_of_ble_eq_true rfl) (Nat.le_of_ble_eq_true rfl) (Nat.le_of_ble_eq_true rfl) (Nat.le_refl _) (Nat.le_refl _) dL_law_714 ?_
  refine L_icmp_eqT C 914 dL_law_717 (by decide) rfl ?_
  exact kk _ _ hR1
set_option maxRecDepth 100000 in
set_option maxHeartbeats 4000000 in
theorem law_c21 {p : Program} {l : Launch} {e : Env} {s : State} {m : MethodId} {below : List Frame} {meth : Method} {c : Code} {G : Gx} {am : Nat → Nat} {b L : Nat} {xs : Nat → Int32} {A : Nat → Prop} {Q : State → Prop} {Rel : St → St → Prop} (hS : Sim_cell Rel) (C : OKL G am p s m #[Value.ref b] meth c b L xs A) (hL : L ≤ 3072) {i : Nat} (hi : i + 6 ≤ L) {σ μ : St} (hR : Rel σ μ) (kk : ∀ σ μ, Rel σ μ → Lw G am p l e room_1 s m #[Value.ref b] below meth c A 600000 7302250 Q σ μ 914 [(0, .ref b), (1, .ref (G.2.1 0)), (2, .ref (am 0)), (3, .int (nI i))] []) : Lw G am p l e room_1 s m #[Value.ref b] below meth c A 600000 7302250 Q σ μ 722 [(0, .ref b), (1, .ref (G.2.1 0)), (2, .ref (am 0)), (3, .int (nI i))] [] := by
  obtain ⟨r, σ1, μ1, hx, hm, hR1⟩ := hS (xs (nI i + nI 1).toNatClampNeg) (xs (nI i + nI 2).toNatClampNeg) (xs (nI i + nI 3).toNatClampNeg) σ μ hR
  refine L_aload_n C 1 dL_law_722 rfl rfl ?_
  refine L_aload_n C 0 dL_law_723 rfl rfl ?_
  refine L_iload_n C 3 dL_law_724 rfl rfl ?_
  refine L_iconst C (w := nI 1) dL_law_725 (by decide) ?_
  refine L_iadd C dL_law_726 ?_
  refine L_sld C (li_add hi hL (by decide)) dL_law_727 ?_
  refine L_aload_n C 0 dL_law_728 rfl rfl ?_
  refine L_iload_n C 3 dL_law_729 rfl rfl ?_
  refine L_iconst C (w := nI 2) dL_law_730 (by decide) ?_
  refine L_iadd C dL_law_731 ?_
  refine L_sld C (li_add hi hL (by decide)) dL_law_732 ?_
  refine L_aload_n C 0 dL_law_733 rfl rfl ?_
  refine L_iload_n C 3 dL_law_734 rfl rfl ?_
  refine L_iconst C (w := nI 3) dL_law_735 (by decide) ?_
  refine L_iadd C dL_law_736 ?_
  refine L_sld C (li_add hi hL (by decide)) dL_law_737 ?_
  refine L_callX (As := [.int (xs (nI i + nI 1).toNatClampNeg), .int (xs (nI i + nI 2).toNatClampNeg), .int (xs (nI i + nI 3).toNatClampNeg)]) (st := []) (vr := fun _ => some (.int r)) C (X9_cell_ok hx) mw_X9_cell.1 mw_X9_cell.2.1 mw_X9_cell.2.2 qL_102 rfl rfl rfl rfl (Nat.le_of_ble_eq_true rfl) (Nat.le_of_ble_eq_true rfl) (Nat.le_of_ble_eq_true rfl) (Nat.le_refl _) (Nat.le_refl _) dL_law_738 ?_
  refine L_aload_n C 2 dL_law_741 rfl rfl ?_
  refine L_aload_n C 0 dL_law_742 rfl rfl ?_
  refine L_iload_n C 3 dL_law_743 rfl rfl ?_
  refine L_iconst C (w := nI 1) dL_law_744 (by decide) ?_
  refine L_iadd C dL_law_745 ?_
  refine L_sld C (li_add hi hL (by decide)) dL_law_746 ?_
  refine L_aload_n C 0 dL_law_747 rfl rfl ?_
  refine L_iload_n C 3 dL_law_748 rfl rfl ?_
  refine L_iconst C (w := nI 2) dL_law_749 (by decide) ?_
  refine L_iadd C dL_law_750 ?_
  refine L_sld C (li_add hi hL (by decide)) dL_law_751 ?_
  refine L_aload_n C 0 dL_law_752 rfl rfl ?_
  refine L_iload_n C 3 dL_law_753 rfl rfl ?_
  refine L_iconst C (w := nI 3) dL_law_754 (by decide) ?_
  refine L_iadd C dL_law_755 ?_
  refine L_sld C (li_add hi hL (by decide)) dL_law_756 ?_
  refine L_callM (As := [.int (xs (nI i + nI 1).toNatClampNeg), .int (xs (nI i + nI 2).toNatClampNeg), .int (xs (nI i + nI 3).toNatClampNeg)]) (st := [.int r]) (vr := fun _ => some (.int r)) C (X10_cell_ok hm) mw_X10_cell.1 mw_X10_cell.2.1 mw_X10_cell.2.2 qL_105 rfl rfl rfl rfl (Nat.le_of_ble_eq_true rfl) (Nat.le_of_ble_eq_true rfl) (Nat.le_of_ble_eq_true rfl) (Nat.le_refl _) (Nat.le_refl _) dL_law_757 ?_
  refine L_icmp_eqT C 914 dL_law_760 (by decide) rfl ?_
  exact kk _ _ hR1
set_option maxRecDepth 100000 in
set_option maxHeartbeats 4000000 in
theorem law_c22 {p : Program} {l : Launch} {e : Env} {s : State} {m : MethodId} {below : List Frame} {meth : Method} {c : Code} {G : Gx} {am : Nat → Nat} {b L : Nat} {xs : Nat → Int32} {A : Nat → Prop} {Q : State → Prop} {Rel : St → St → Prop} (hS : Sim_copy Rel) (C : OKL G am p s m #[Value.ref b] meth c b L xs A) (hL : L ≤ 3072) {i : Nat} (hi : i + 6 ≤ L) {σ μ : St} (hR : Rel σ μ) (kk : ∀ σ μ, Rel σ μ → Lw G am p l e room_1 s m #[Value.ref b] below meth c A 600000 7302250 Q σ μ 914 [(0, .ref b), (1, .ref (G.2.1 0)), (2, .ref (am 0)), (3, .int (nI i))] []) : Lw G am p l e room_1 s m #[Value.ref b] below meth c A 600000 7302250 Q σ μ 765 [(0, .ref b), (1, .ref (G.2.1 0)), (2, .ref (am 0)), (3, .int (nI i))] [] := by
  obtain ⟨r, σ1, μ1, hx, hm, hR1⟩ := hS (xs (nI i + nI 1).toNatClampNeg) (xs (nI i + nI 2).toNatClampNeg) (xs (nI i + nI 3).toNatClampNeg) (xs (nI i + nI 4).toNatClampNeg) (xs (nI i + nI 5).toNatClampNeg) σ μ hR
  refine L_aload_n C 1 dL_law_765 rfl rfl ?_
  refine L_aload_n C 0 dL_law_766 rfl rfl ?_
  refine L_iload_n C 3 dL_law_767 rfl rfl ?_
  refine L_iconst C (w := nI 1) dL_law_768 (by decide) ?_
  refine L_iadd C dL_law_769 ?_
  refine L_sld C (li_add hi hL (by decide)) dL_law_770 ?_
  refine L_aload_n C 0 dL_law_771 rfl rfl ?_
  refine L_iload_n C 3 dL_law_772 rfl rfl ?_
  refine L_iconst C (w := nI 2) dL_law_773 (by decide) ?_
  refine L_iadd C dL_law_774 ?_
  refine L_sld C (li_add hi hL (by decide)) dL_law_775 ?_
  refine L_aload_n C 0 dL_law_776 rfl rfl ?_
  refine L_iload_n C 3 dL_law_777 rfl rfl ?_
  refine L_iconst C (w := nI 3) dL_law_778 (by decide) ?_
  refine L_iadd C dL_law_779 ?_
  refine L_sld C (li_add hi hL (by decide)) dL_law_780 ?_
  refine L_aload_n C 0 dL_law_781 rfl rfl ?_
  refine L_iload_n C 3 dL_law_782 rfl rfl ?_
  refine L_iconst C (w := nI 4) dL_law_783 (by decide) ?_
  refine L_iadd C dL_law_784 ?_
  refine L_sld C (li_add hi hL (by decide)) dL_law_785 ?_
  refine L_aload_n C 0 dL_law_786 rfl rfl ?_
  refine L_iload_n C 3 dL_law_787 rfl rfl ?_
  refine L_iconst C (w := nI 5) dL_law_788 (by decide) ?_
  refine L_iadd C dL_law_789 ?_
  refine L_sld C (li_add hi hL (by decide)) dL_law_790 ?_
  refine L_callX (As := [.int (xs (nI i + nI 1).toNatClampNeg), .int (xs (nI i + nI 2).toNatClampNeg), .int (xs (nI i + nI 3).toNatClampNeg), .int (xs (nI i + nI 4).toNatClampNeg), .int (xs (nI i + nI 5).toNatClampNeg)]) (st := []) (vr := fun _ => some (.int r)) C (X9_copy_ok hx) mw_X9_copy.1 mw_X9_copy.2.1 mw_X9_copy.2.2 qL_106 rfl rfl rfl rfl (Nat.le_of_ble_eq_true rfl) (Nat.le_of_ble_eq_true rfl) (Nat.le_of_ble_eq_true rfl) (Nat.le_refl _) (Nat.le_refl _) dL_law_791 ?_
  refine L_aload_n C 2 dL_law_794 rfl rfl ?_
  refine L_aload_n C 0 dL_law_795 rfl rfl ?_
  refine L_iload_n C 3 dL_law_796 rfl rfl ?_
  refine L_iconst C (w := nI 1) dL_law_797 (by decide) ?_
  refine L_iadd C dL_law_798 ?_
  refine L_sld C (li_add hi hL (by decide)) dL_law_799 ?_
  refine L_aload_n C 0 dL_law_800 rfl rfl ?_
  refine L_iload_n C 3 dL_law_801 rfl rfl ?_
  refine L_iconst C (w := nI 2) dL_law_802 (by decide) ?_
  refine L_iadd C dL_law_803 ?_
  refine L_sld C (li_add hi hL (by decide)) dL_law_804 ?_
  refine L_aload_n C 0 dL_law_805 rfl rfl ?_
  refine L_iload_n C 3 dL_law_806 rfl rfl ?_
  refine L_iconst C (w := nI 3) dL_law_807 (by decide) ?_
  refine L_iadd C dL_law_808 ?_
  refine L_sld C (li_add hi hL (by decide)) dL_law_809 ?_
  refine L_aload_n C 0 dL_law_810 rfl rfl ?_
  refine L_iload_n C 3 dL_law_811 rfl rfl ?_
  refine L_iconst C (w := nI 4) dL_law_812 (by decide) ?_
  refine L_iadd C dL_law_813 ?_
  refine L_sld C (li_add hi hL (by decide)) dL_law_814 ?_
  refine L_aload_n C 0 dL_law_815 rfl rfl ?_
  refine L_iload_n C 3 dL_law_816 rfl rfl ?_
  refine L_iconst C (w := nI 5) dL_law_817 (by decide) ?_
  refine L_iadd C dL_law_818 ?_
  refine L_sld C (li_add hi hL (by decide)) dL_law_819 ?_
  refine L_callM (As := [.int (xs (nI i + nI 1).toNatClampNeg), .int (xs (nI i + nI 2).toNatClampNeg), .int (xs (nI i + nI 3).toNatClampNeg), .int (xs (nI i + nI 4).toNatClampNeg), .int (xs (nI i + nI 5).toNatClampNeg)]) (st := [.int r]) (vr := fun _ => some (.int r)) C (X10_copy_ok hm) mw_X10_copy.1 mw_X10_copy.2.1 mw_X10_copy.2.2 qL_110 rfl rfl rfl rfl (Nat.le_of_ble_eq_true rfl) (Nat.le_of_ble_eq_true rfl) (Nat.le_of_ble_eq_true rfl) (Nat.le_refl _) (Nat.le_refl _) dL_law_820 ?_
  refine L_icmp_eqT C 914 dL_law_823 (by decide) rfl ?_
  exact kk _ _ hR1
set_option maxRecDepth 100000 in
set_option maxHeartbeats 4000000 in
theorem law_c23 {p : Program} {l : Launch} {e : Env} {s : State} {m : MethodId} {below : List Frame} {meth : Method} {c : Code} {G : Gx} {am : Nat → Nat} {b L : Nat} {xs : Nat → Int32} {A : Nat → Prop} {Q : State → Prop} {Rel : St → St → Prop} (hS : Sim_guests Rel) (C : OKL G am p s m #[Value.ref b] meth c b L xs A) (hL : L ≤ 3072) {i : Nat} (hi : i + 6 ≤ L) {σ μ : St} (hR : Rel σ μ) (kk : ∀ σ μ, Rel σ μ → Lw G am p l e room_1 s m #[Value.ref b] below meth c A 600000 7302250 Q σ μ 914 [(0, .ref b), (1, .ref (G.2.1 0)), (2, .ref (am 0)), (3, .int (nI i))] []) : Lw G am p l e room_1 s m #[Value.ref b] below meth c A 600000 7302250 Q σ μ 828 [(0, .ref b), (1, .ref (G.2.1 0)), (2, .ref (am 0)), (3, .int (nI i))] [] := by
  obtain ⟨r, σ1, μ1, hx, hm, hR1⟩ := hS (xs (nI i + nI 1).toNatClampNeg) (xs (nI i + nI 2).toNatClampNeg) (xs (nI i + nI 3).toNatClampNeg) (xs (nI i + nI 4).toNatClampNeg) σ μ hR
  refine L_aload_n C 1 dL_law_828 rfl rfl ?_
  refine L_aload_n C 0 dL_law_829 rfl rfl ?_
  refine L_iload_n C 3 dL_law_830 rfl rfl ?_
  refine L_iconst C (w := nI 1) dL_law_831 (by decide) ?_
  refine L_iadd C dL_law_832 ?_
  refine L_sld C (li_add hi hL (by decide)) dL_law_833 ?_
  refine L_aload_n C 0 dL_law_834 rfl rfl ?_
  refine L_iload_n C 3 dL_law_835 rfl rfl ?_
  refine L_iconst C (w := nI 2) dL_law_836 (by decide) ?_
  refine L_iadd C dL_law_837 ?_
  refine L_sld C (li_add hi hL (by decide)) dL_law_838 ?_
  refine L_aload_n C 0 dL_law_839 rfl rfl ?_
  refine L_iload_n C 3 dL_law_840 rfl rfl ?_
  refine L_iconst C (w := nI 3) dL_law_841 (by decide) ?_
  refine L_iadd C dL_law_842 ?_
  refine L_sld C (li_add hi hL (by decide)) dL_law_843 ?_
  refine L_aload_n C 0 dL_law_844 rfl rfl ?_
  refine L_iload_n C 3 dL_law_845 rfl rfl ?_
  refine L_iconst C (w := nI 4) dL_law_846 (by decide) ?_
  refine L_iadd C dL_law_847 ?_
  refine L_sld C (li_add hi hL (by decide)) dL_law_848 ?_
  refine L_callX (As := [.int (xs (nI i + nI 1).toNatClampNeg), .int (xs (nI i + nI 2).toNatClampNeg), .int (xs (nI i + nI 3).toNatClampNeg), .int (xs (nI i + nI 4).toNatClampNeg)]) (st := []) (vr := fun _ => some (.int r)) C (X9_guests_ok hx) mw_X9_guests.1 mw_X9_guests.2.1 mw_X9_guests.2.2 qL_111 rfl rfl rfl rfl (Nat.le_of_ble_eq_true rfl) (Nat.le_of_ble_eq_true rfl) (Nat.le_of_ble_eq_true rfl) (Nat.le_refl _) (Nat.le_refl _) dL_law_849 ?_
  refine L_aload_n C 2 dL_law_852 rfl rfl ?_
  refine L_aload_n C 0 dL_law_853 rfl rfl ?_
  refine L_iload_n C 3 dL_law_854 rfl rfl ?_
  refine L_iconst C (w := nI 1) dL_law_855 (by decide) ?_
  refine L_iadd C dL_law_856 ?_
  refine L_sld C (li_add hi hL (by decide)) dL_law_857 ?_
  refine L_aload_n C 0 dL_law_858 rfl rfl ?_
  refine L_iload_n C 3 dL_law_859 rfl rfl ?_
  refine L_iconst C (w := nI 2) dL_law_860 (by decide) ?_
  refine L_iadd C dL_law_861 ?_
  refine L_sld C (li_add hi hL (by decide)) dL_law_862 ?_
  refine L_aload_n C 0 dL_law_863 rfl rfl ?_
  refine L_iload_n C 3 dL_law_864 rfl rfl ?_
  refine L_iconst C (w := nI 3) dL_law_865 (by decide) ?_
  refine L_iadd C dL_law_866 ?_
  refine L_sld C (li_add hi hL (by decide)) dL_law_867 ?_
  refine L_aload_n C 0 dL_law_868 rfl rfl ?_
  refine L_iload_n C 3 dL_law_869 rfl rfl ?_
  refine L_iconst C (w := nI 4) dL_law_870 (by decide) ?_
  refine L_iadd C dL_law_871 ?_
  refine L_sld C (li_add hi hL (by decide)) dL_law_872 ?_
  refine L_callM (As := [.int (xs (nI i + nI 1).toNatClampNeg), .int (xs (nI i + nI 2).toNatClampNeg), .int (xs (nI i + nI 3).toNatClampNeg), .int (xs (nI i + nI 4).toNatClampNeg)]) (st := [.int r]) (vr := fun _ => some (.int r)) C (X10_guests_ok hm) mw_X10_guests.1 mw_X10_guests.2.1 mw_X10_guests.2.2 qL_115 rfl rfl rfl rfl (Nat.le_of_ble_eq_true rfl) (Nat.le_of_ble_eq_true rfl) (Nat.le_of_ble_eq_true rfl) (Nat.le_refl _) (Nat.le_refl _) dL_law_873 ?_
  refine L_icmp_eqT C 914 dL_law_876 (by decide) rfl ?_
  exact kk _ _ hR1
set_option maxRecDepth 100000 in
set_option maxHeartbeats 4000000 in
theorem law_c24 {p : Program} {l : Launch} {e : Env} {s : State} {m : MethodId} {below : List Frame} {meth : Method} {c : Code} {G : Gx} {am : Nat → Nat} {b L : Nat} {xs : Nat → Int32} {A : Nat → Prop} {Q : State → Prop} {Rel : St → St → Prop} (hS : Sim_taken Rel) (C : OKL G am p s m #[Value.ref b] meth c b L xs A) (hL : L ≤ 3072) {i : Nat} (hi : i + 6 ≤ L) {σ μ : St} (hR : Rel σ μ) (kk : ∀ σ μ, Rel σ μ → Lw G am p l e room_1 s m #[Value.ref b] below meth c A 600000 7302250 Q σ μ 914 [(0, .ref b), (1, .ref (G.2.1 0)), (2, .ref (am 0)), (3, .int (nI i))] []) : Lw G am p l e room_1 s m #[Value.ref b] below meth c A 600000 7302250 Q σ μ 881 [(0, .ref b), (1, .ref (G.2.1 0)), (2, .ref (am 0)), (3, .int (nI i))] [] := by
  obtain ⟨r, hx, hm, hR1⟩ := hS (xs (nI i + nI 1).toNatClampNeg) (xs (nI i + nI 2).toNatClampNeg) σ μ hR
  refine L_aload_n C 1 dL_law_881 rfl rfl ?_
  refine L_aload_n C 0 dL_law_882 rfl rfl ?_
  refine L_iload_n C 3 dL_law_883 rfl rfl ?_
  refine L_iconst C (w := nI 1) dL_law_884 (by decide) ?_
  refine L_iadd C dL_law_885 ?_
  refine L_sld C (li_add hi hL (by decide)) dL_law_886 ?_
  refine L_aload_n C 0 dL_law_887 rfl rfl ?_
  refine L_iload_n C 3 dL_law_888 rfl rfl ?_
  refine L_iconst C (w := nI 2) dL_law_889 (by decide) ?_
  refine L_iadd C dL_law_890 ?_
  refine L_sld C (li_add hi hL (by decide)) dL_law_891 ?_
  refine L_callX (As := [.int (xs (nI i + nI 1).toNatClampNeg), .int (xs (nI i + nI 2).toNatClampNeg)]) (st := []) (vr := fun _ => some (.int r)) C (X9_taken_ok hx) mw_X9_taken.1 mw_X9_taken.2.1 mw_X9_taken.2.2 qL_116 rfl rfl rfl rfl (Nat.le_of_ble_eq_true rfl) (Nat.le_of_ble_eq_true rfl) (Nat.le_of_ble_eq_true rfl) (Nat.le_refl _) (Nat.le_refl _) dL_law_892 ?_
  refine L_aload_n C 2 dL_law_895 rfl rfl ?_
  refine L_aload_n C 0 dL_law_896 rfl rfl ?_
  refine L_iload_n C 3 dL_law_897 rfl rfl ?_
  refine L_iconst C (w := nI 1) dL_law_898 (by decide) ?_
  refine L_iadd C dL_law_899 ?_
  refine L_sld C (li_add hi hL (by decide)) dL_law_900 ?_
  refine L_aload_n C 0 dL_law_901 rfl rfl ?_
  refine L_iload_n C 3 dL_law_902 rfl rfl ?_
  refine L_iconst C (w := nI 2) dL_law_903 (by decide) ?_
  refine L_iadd C dL_law_904 ?_
  refine L_sld C (li_add hi hL (by decide)) dL_law_905 ?_
  refine L_callM (As := [.int (xs (nI i + nI 1).toNatClampNeg), .int (xs (nI i + nI 2).toNatClampNeg)]) (st := [.int r]) (vr := fun _ => some (.int r)) C (X10_taken_ok hm) mw_X10_taken.1 mw_X10_taken.2.1 mw_X10_taken.2.2 qL_119 rfl rfl rfl rfl (Nat.le_of_ble_eq_true rfl) (Nat.le_of_ble_eq_true rfl) (Nat.le_of_ble_eq_true rfl) (Nat.le_refl _) (Nat.le_refl _) dL_law_906 ?_
  refine L_icmp_eqT C 914 dL_law_909 (by decide) rfl ?_
  exact kk _ _ hR1
set_option maxRecDepth 100000 in
set_option maxHeartbeats 4000000 in
/-- THE LAW'S LOOP -/
theorem law_loop {p : Program} {l : Launch} {e : Env} {s : State} {m : MethodId} {below : List Frame} {meth : Method} {c : Code} {G : Gx} {am : Nat → Nat} {b L : Nat} {xs : Nat → Int32} {A : Nat → Prop} {Q : State → Prop} {Rel : St → St → Prop} (hS : Sim Rel) (C : OKL G am p s m #[Value.ref b] meth c b L xs A) (hL : L ≤ 3072) (kend : ∀ σ μ lv, Lw G am p l e room_1 s m #[Value.ref b] below meth c A 600000 7302250 Q σ μ 920 lv []) : ∀ (n i : Nat) (σ μ : St), i ≤ L → L + 1 ≤ i + n → Rel σ μ → Lw G am p l e room_1 s m #[Value.ref b] below meth c A 600000 7302250 Q σ μ 18 [(0, .ref b), (1, .ref (G.2.1 0)), (2, .ref (am 0)), (3, .int (nI i))] [] := by
  intro n
  induction n with
  | zero =>
    intro i σ μ h1 h2
    exact absurd h2 (by omega)
  | succ n ih =>
    intro i σ μ hi hin hR
    refine L_iload_n C 3 dL_law_18 rfl rfl ?_
    refine L_aload_n C 0 dL_law_19 rfl rfl ?_
    refine L_slen C dL_law_20 ?_
    refine L_bipush C (w := 6) dL_law_21 (by decide) ?_
    refine L_isub C dL_law_23 ?_
    by_cases hc : i + 6 ≤ L
    · have e6 : Int32.ofNat L - 6 = nI (L - 6) := pk_sub (a := L) (b := 6) (by omega)
      rw [e6]
      refine L_icmp_gtF C 920 dL_law_24 (by decide) (by rw [nI_ltI (by omega) (by omega)]; omega) ?_
      refine L_aload_n C 0 dL_law_27 rfl rfl ?_
      refine L_iload_n C 3 dL_law_28 rfl rfl ?_
      refine L_sld C (vp_in_nI (by omega) (by omega)) dL_law_29 ?_
      refine L_bipush C (w := 31) dL_law_30 (by decide) ?_
      refine L_iand C dL_law_32 ?_
      have kk : ∀ σ μ, Rel σ μ → Lw G am p l e room_1 s m #[Value.ref b] below meth c A 600000 7302250 Q σ μ 914 [(0, .ref b), (1, .ref (G.2.1 0)), (2, .ref (am 0)), (3, .int (nI i))] [] := by
        intro σ μ hR
        refine L_iinc C (w := nI (i + 6)) (lv' := [(3, .int (nI (i + 6))), (0, .ref b), (1, .ref (G.2.1 0)), (2, .ref (am 0))]) 3 dL_law_914 rfl (by rw [show Int32.ofInt 6 = nI 6 by decide, nI_add]) (by decide) rfl ?_
        refine L_goto C 18 dL_law_917 (by decide) ?_
        refine L_sub (lv' := [(0, .ref b), (1, .ref (G.2.1 0)), (2, .ref (am 0)), (3, .int (nI (i + 6)))]) [1, 2, 3, 0] rfl ?_
        exact ih (i + 6) σ μ hc (by omega) hR
      generalize hy : (xs (nI i).toNatClampNeg &&& 31 : Int32) = y
      obtain ⟨s0, s1, s2, s3, s4, s5, s6, s7, s8, s9, s10, s11, s12, s13, s14, s15, s16, s17, s18, s19, s20, s21, s22, s23, s24⟩ := hS
      by_cases t0 : y = 0
      · refine L_tableIn (off := 115) C 148 dL_law_33 (by rw [t0]; decide) (by decide) ?_
        exact law_c0 s0 C hL hc hR kk
      have n0 := ti_ne t0 (show (0 : Int32).toInt = 0 by decide)
      by_cases t1 : y = 1
      · refine L_tableIn (off := 158) C 191 dL_law_33 (by rw [t1]; decide) (by decide) ?_
        exact law_c1 s1 C hL hc hR kk
      have n1 := ti_ne t1 (show (1 : Int32).toInt = 1 by decide)
      by_cases t2 : y = 2
      · refine L_tableIn (off := 201) C 234 dL_law_33 (by rw [t2]; decide) (by decide) ?_
        exact law_c2 s2 C hL hc hR kk
      have n2 := ti_ne t2 (show (2 : Int32).toInt = 2 by decide)
      by_cases t3 : y = 3
      · refine L_tableIn (off := 234) C 267 dL_law_33 (by rw [t3]; decide) (by decide) ?_
        exact law_c3 s3 C hL hc hR kk
      have n3 := ti_ne t3 (show (3 : Int32).toInt = 3 by decide)
      by_cases t4 : y = 4
      · refine L_tableIn (off := 257) C 290 dL_law_33 (by rw [t4]; decide) (by decide) ?_
        exact law_c4 s4 C hL hc hR kk
      have n4 := ti_ne t4 (show (4 : Int32).toInt = 4 by decide)
      by_cases t5 : y = 5
      · refine L_tableIn (off := 270) C 303 dL_law_33 (by rw [t5]; decide) (by decide) ?_
        exact law_c5 s5 C hL hc hR kk
      have n5 := ti_ne t5 (show (5 : Int32).toInt = 5 by decide)
      by_cases t6 : y = 6
      · refine L_tableIn (off := 293) C 326 dL_law_33 (by rw [t6]; decide) (by decide) ?_
        exact law_c6 s6 C hL hc hR kk
      have n6 := ti_ne t6 (show (6 : Int32).toInt = 6 by decide)
      by_cases t7 : y = 7
      · refine L_tableIn (off := 326) C 359 dL_law_33 (by rw [t7]; decide) (by decide) ?_
        exact law_c7 s7 C hL hc hR kk
      have n7 := ti_ne t7 (show (7 : Int32).toInt = 7 by decide)
      by_cases t8 : y = 8
      · refine L_tableIn (off := 349) C 382 dL_law_33 (by rw [t8]; decide) (by decide) ?_
        exact law_c8 s8 C hL hc hR kk
      have n8 := ti_ne t8 (show (8 : Int32).toInt = 8 by decide)
      by_cases t9 : y = 9
      · refine L_tableIn (off := 372) C 405 dL_law_33 (by rw [t9]; decide) (by decide) ?_
        exact law_c9 s9 C hL hc hR kk
      have n9 := ti_ne t9 (show (9 : Int32).toInt = 9 by decide)
      by_cases t10 : y = 10
      · refine L_tableIn (off := 395) C 428 dL_law_33 (by rw [t10]; decide) (by decide) ?_
        exact law_c10 s10 C hL hc hR kk
      have n10 := ti_ne t10 (show (10 : Int32).toInt = 10 by decide)
      by_cases t11 : y = 11
      · refine L_tableIn (off := 418) C 451 dL_law_33 (by rw [t11]; decide) (by decide) ?_
        exact law_c11 s11 C hL hc hR kk
      have n11 := ti_ne t11 (show (11 : Int32).toInt = 11 by decide)
      by_cases t12 : y = 12
      · refine L_tableIn (off := 451) C 484 dL_law_33 (by rw [t12]; decide) (by decide) ?_
        exact law_c12 s12 C hL hc hR kk
      have n12 := ti_ne t12 (show (12 : Int32).toInt = 12 by decide)
      by_cases t13 : y = 13
      · refine L_tableIn (off := 474) C 507 dL_law_33 (by rw [t13]; decide) (by decide) ?_
        exact law_c13 s13 C hL hc hR kk
      have n13 := ti_ne t13 (show (13 : Int32).toInt = 13 by decide)
      by_cases t14 : y = 14
      · refine L_tableIn (off := 507) C 540 dL_law_33 (by rw [t14]; decide) (by decide) ?_
        exact law_c14 s14 C hL hc hR kk
      have n14 := ti_ne t14 (show (14 : Int32).toInt = 14 by decide)
      by_cases t15 : y = 15
      · refine L_tableIn (off := 530) C 563 dL_law_33 (by rw [t15]; decide) (by decide) ?_
        exact law_c15 s15 C hL hc hR kk
      have n15 := ti_ne t15 (show (15 : Int32).toInt = 15 by decide)
      by_cases t16 : y = 16
      · refine L_tableIn (off := 553) C 586 dL_law_33 (by rw [t16]; decide) (by decide) ?_
        exact law_c16 s16 C hL hc hR kk
      have n16 := ti_ne t16 (show (16 : Int32).toInt = 16 by decide)
      by_cases t17 : y = 17
      · refine L_tableIn (off := 597) C 630 dL_law_33 (by rw [t17]; decide) (by decide) ?_
        exact law_c17 s17 C hL hc hR kk
      have n17 := ti_ne t17 (show (17 : Int32).toInt = 17 by decide)
      by_cases t18 : y = 18
      · refine L_tableIn (off := 610) C 643 dL_law_33 (by rw [t18]; decide) (by decide) ?_
        exact law_c18 s18 C hL hc hR kk
      have n18 := ti_ne t18 (show (18 : Int32).toInt = 18 by decide)
      by_cases t19 : y = 19
      · refine L_tableIn (off := 623) C 656 dL_law_33 (by rw [t19]; decide) (by decide) ?_
        exact law_c19 s19 C hL hc hR kk
      have n19 := ti_ne t19 (show (19 : Int32).toInt = 19 by decide)
      by_cases t20 : y = 20
      · refine L_tableIn (off := 646) C 679 dL_law_33 (by rw [t20]; decide) (by decide) ?_
        exact law_c20 s20 C hL hc hR kk
      have n20 := ti_ne t20 (show (20 : Int32).toInt = 20 by decide)
      by_cases t21 : y = 21
      · refine L_tableIn (off := 689) C 722 dL_law_33 (by rw [t21]; decide) (by decide) ?_
        exact law_c21 s21 C hL hc hR kk
      have n21 := ti_ne t21 (show (21 : Int32).toInt = 21 by decide)
      by_cases t22 : y = 22
      · refine L_tableIn (off := 732) C 765 dL_law_33 (by rw [t22]; decide) (by decide) ?_
        exact law_c22 s22 C hL hc hR kk
      have n22 := ti_ne t22 (show (22 : Int32).toInt = 22 by decide)
      by_cases t23 : y = 23
      · refine L_tableIn (off := 795) C 828 dL_law_33 (by rw [t23]; decide) (by decide) ?_
        exact law_c23 s23 C hL hc hR kk
      have n23 := ti_ne t23 (show (23 : Int32).toInt = 23 by decide)
      by_cases t24 : y = 24
      · refine L_tableIn (off := 848) C 881 dL_law_33 (by rw [t24]; decide) (by decide) ?_
        exact law_c24 s24 C hL hc hR kk
      have n24 := ti_ne t24 (show (24 : Int32).toInt = 24 by decide)
      refine L_tableOut C 914 dL_law_33 (by omega) (by decide) ?_
      exact kk σ μ hR
    · refine L_icmp_gtT C 920 dL_law_24 (by decide) ?_ ?_
      · rcases Nat.lt_or_ge L 6 with h6 | h6
        · have e6 : Int32.ofNat L - 6 = nI L - nI 6 := rfl
          have h7 : nI L - nI 6 < 0 := pk_sneg (by omega) h6
          rw [e6]
          have h8 : 0 ≤ nI i := nI_pos' (by omega)
          rw [Int32.lt_iff_toInt_lt] at h7 ⊢
          rw [Int32.le_iff_toInt_le] at h8
          omega
        · have e6 : Int32.ofNat L - 6 = nI (L - 6) := pk_sub (a := L) (b := 6) h6
          rw [e6, nI_ltI (by omega) (by omega)]
          omega
      · exact kend _ _ _
