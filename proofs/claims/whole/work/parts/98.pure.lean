/-- WHAT IS LEFT: pure functions alone -/
theorem pure_all : ∃ Inv : e_G → Prop, OK_all SS Inv ∧ ∃ k1 k2 : e_G, J_X10_init_224 SX 0 gX = some k1 ∧ J_X11_init_1002 SS 76 (gM k1) = some k2 ∧ Inv k2 := sorry
