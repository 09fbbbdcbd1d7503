theorem pure_main : ∃ (Rel : St → St → Prop) (x0 m0 : St), Sim Rel ∧ X9_init_b169 FU 0 σX0 = some x0 ∧ X10_init_b145 σM0 = some m0 ∧ Rel x0 m0 := sorry
