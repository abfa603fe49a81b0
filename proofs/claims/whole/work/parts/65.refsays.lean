/-! the reference's codes of a token -/
def m_cd (op : Nat) : Nat := if op = 2 then 19 else if op = 3 then 13 else if op = 4 then 18 else if op = 5 then 16 else if op = 6 then 17 else if op = 7 then 14 else if op = 8 then 15 else if op = 9 then 12 else 11
def m_enc (q : Nat × Int32) : Int32 := if q.1 = 0 then q.2 + 100000 else if q.1 = 1 then q.2 else nI (m_cd q.1)
theorem x11_two {op : Nat} (h1 : 4 ≤ op) (h2 : op ≤ 10) (a b : Int32) (g : e_G) : f_X11_two SS (nI (m_cd op)) a b g = some (t_two op a b, g) := by
  unfold f_X11_two t_two
  have k11 : (11 : Int32) = nI 11 := by decide +kernel
  have k12 : (12 : Int32) = nI 12 := by decide +kernel
  have k13 : (13 : Int32) = nI 13 := by decide +kernel
  have k14 : (14 : Int32) = nI 14 := by decide +kernel
  have k15 : (15 : Int32) = nI 15 := by decide +kernel
  have k16 : (16 : Int32) = nI 16 := by decide +kernel
  have k17 : (17 : Int32) = nI 17 := by decide +kernel
  have hc : ∀ op, op ≤ 10 → m_cd op < 2 ^ 31 := by decide +kernel
  have e : ∀ k, k ≤ 20 → (nI (m_cd op) = nI k ↔ m_cd op = k) := fun k hk => nI_eq (hc op h2) (by omega)
  rw [k11, k12, k13, k14, k15, k16, k17]
  simp only [e 11 (by omega), e 12 (by omega), e 13 (by omega), e 14 (by omega), e 15 (by omega), e 16 (by omega), e 17 (by omega), J_X11_two_52]
  match op, h1, h2 with
  | 4, _, _ => simp [m_cd]
  | 5, _, _ => simp [m_cd]
  | 6, _, _ => simp [m_cd]
  | 7, _, _ => simp [m_cd]; split <;> rfl
  | 8, _, _ => simp [m_cd]; split <;> rfl
  | 9, _, _ =>
    simp [m_cd]
    by_cases a0 : a = 0
    · simp [a0]
    · by_cases b0 : b = 0 <;> simp [a0, b0]
  | 10, _, _ =>
    simp [m_cd]
    by_cases a0 : a = 0
    · by_cases b0 : b = 0 <;> simp [a0, b0]
    · simp [a0]
