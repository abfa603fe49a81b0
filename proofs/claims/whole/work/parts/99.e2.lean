/-! the start: references -/
set_option maxHeartbeats 4000000 in
set_option maxRecDepth 20000 in
theorem k1_r : k1_.2 = e_up (e_up gX.2 3 0 (some 4)) 3 1 (some 7) := by rfl
set_option maxHeartbeats 4000000 in
set_option maxRecDepth 20000 in
theorem k2_r : k2_.2 = (gM k1_).2 := by rfl
theorem k2_GG : GG k2_ := by
  intro a j h3 h96
  rw [k2_r]
  have s0 : SX.1 = 76 := by decide +kernel
  have z0 : h00.1.1 = 0 := by decide +kernel
  show (if a < SX.1 then k1_.2 a else fun j => (hm_183.getD (a - SX.1) e_d0).2.2.lookup j) j = if a < 76 then (hx_160.getD a e_d0).2.2.lookup j else (hm_183.getD (a - 76) e_d0).2.2.lookup j
  rw [s0]
  by_cases y : a < 76
  · rw [if_pos y, if_pos y, k1_r, e_up_row h3, e_up_row h3]
    show (if a < h00.1.1 then h00.2.2 a else fun j => (hx_160.getD (a - h00.1.1) e_d0).2.2.lookup j) j = _
    rw [z0, if_neg (by omega), Nat.sub_zero]
  · rw [if_neg y, if_neg y]
