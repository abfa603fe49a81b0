/-! the start: the class's -/
def k1_ : e_G := (J_X10_init_224 SX 0 gX).getD (fun _ _ => 0, fun _ _ => none)
theorem k1_some : (J_X10_init_224 SX 0 gX).isSome = true := by decide +kernel
theorem k1_eq : J_X10_init_224 SX 0 gX = some k1_ := by
  unfold k1_
  cases e : J_X10_init_224 SX 0 gX with
  | none => have := k1_some; rw [e] at this; exact absurd (show false = true from this) (by decide)
  | some k => rfl
def k2_ : e_G := (J_X11_init_1002 SS 76 (gM k1_)).getD (fun _ _ => 0, fun _ _ => none)
theorem k2_some : (J_X11_init_1002 SS 76 (gM k1_)).isSome = true := by decide +kernel
theorem k2_eq : J_X11_init_1002 SS 76 (gM k1_) = some k2_ := by
  unfold k2_
  cases e : J_X11_init_1002 SS 76 (gM k1_) with
  | none => have := k2_some; rw [e] at this; exact absurd (show false = true from this) (by decide)
  | some k => rfl
theorem k2_rows : k2_.1 0 9 = 1 ∧ k2_.1 76 9 = 1 ∧ k2_.1 0 10 = 0 ∧ k2_.1 76 6 = 0 ∧ k2_.1 0 11 = 0 ∧ k2_.1 76 11 = 0 ∧ k2_.1 76 0 = 0 ∧ k2_.1 76 4 = 0 ∧ k2_.1 76 10 = 0 ∧ k2_.1 52 6 = 0 ∧ k2_.1 52 7 = 0 ∧ k2_.1 52 8 = 0 := by decide +kernel
theorem k2_words : ∀ k, k < 96 → k2_.1 89 k = nI (c_wt k) := by decide +kernel
theorem k2_text : (∀ p, p < 3 → k2_.1 11 p = nI (3 + p)) ∧ (∀ p, p < 4 → k2_.1 82 p = nI (if p = 0 then 0 else 2 + p)) := by decide +kernel
