/-! texts, as tokens that a stack runs: 0 a number, 1 a name, 2 - of one, 3 not, 4 *, 5 +, 6 -, 7 <, 8 =, 9 and, 10 or -/
def t_one (op : Nat) (x : Int32) : Int32 := if op = 2 then -x else if x = 0 then 1 else 0
def t_two (op : Nat) (a b : Int32) : Int32 := if op = 4 then a * b else if op = 5 then a + b else if op = 6 then a - b else if op = 7 then (if b ≤ a then 0 else 1) else if op = 8 then (if a = b then 1 else 0) else if op = 9 then (if a = 0 ∨ b = 0 then 0 else 1) else (if a = 0 ∧ b = 0 then 0 else 1)
def evT (nm : Nat → Int32) : List (Nat × Int32) → List Int32 → Option (List Int32)
  | [], st => some st
  | (op, v) :: ts, st =>
    if op = 0 then evT nm ts (v :: st)
    else if op = 1 then evT nm ts (nm v.toNatClampNeg :: st)
    else if op ≤ 3 then (match st with
      | x :: st => evT nm ts (t_one op x :: st)
      | [] => none)
    else (match st with
      | y :: x :: st => evT nm ts (t_two op x y :: st)
      | _ => none)
def tokOK (q : Nat × Int32) : Prop := q.1 ≤ 10 ∧ (q.1 = 1 → ∃ k, k < 6 ∧ q.2 = nI k)
theorem nI_inj {a b : Nat} (ha : a < 2 ^ 31) (hb : b < 2 ^ 31) (h : nI a = nI b) : a = b := (nI_eq ha hb).mp h
theorem nI_litne {a : Nat} {z : Int32} {b : Nat} (hz : z = nI b) (ha : a < 2 ^ 31) (hb : b < 2 ^ 31) (h : a ≠ b) : ¬ nI a = z := fun q => h (nI_inj ha hb (q.trans hz))
theorem x9_two {op : Nat} (h1 : 4 ≤ op) (h2 : op ≤ 10) (a b : Int32) (g : e_G) : f_X9_ofTwo SS (nI op) a b g = some (t_two op a b, g) := by
  unfold f_X9_ofTwo t_two J_X9_ofTwo_100
  have k4 : (4 : Int32) = nI 4 := by decide +kernel
  have k5 : (5 : Int32) = nI 5 := by decide +kernel
  have k6 : (6 : Int32) = nI 6 := by decide +kernel
  have k7 : (7 : Int32) = nI 7 := by decide +kernel
  have k8 : (8 : Int32) = nI 8 := by decide +kernel
  have k9 : (9 : Int32) = nI 9 := by decide +kernel
  have k10 : (10 : Int32) = nI 10 := by decide +kernel
  have e : ∀ k, k ≤ 10 → (nI op = nI k ↔ op = k) := fun k hk => nI_eq (by omega) (by omega)
  rw [k4, k5, k6, k7, k8, k9, k10]
  simp only [e 4 (by omega), e 5 (by omega), e 6 (by omega), e 7 (by omega), e 8 (by omega), e 9 (by omega), e 10 (by omega)]
  by_cases c4 : op = 4
  · simp [c4]
  · by_cases c5 : op = 5
    · simp [c5]
    · by_cases c6 : op = 6
      · simp [c6]
      · by_cases c7 : op = 7
        · simp only [c7]; simp; split <;> rfl
        · by_cases c8 : op = 8
          · simp only [c8]; simp; split <;> rfl
          · by_cases c9 : op = 9
            · simp only [c9]; simp
              by_cases a0 : a = 0
              · simp [a0]
              · by_cases b0 : b = 0 <;> simp [a0, b0]
            · have c10 : op = 10 := by omega
              simp only [c10]; simp
              by_cases a0 : a = 0
              · by_cases b0 : b = 0 <;> simp [a0, b0]
              · simp [a0]
theorem x9_one {op : Nat} (h1 : 2 ≤ op) (h2 : op ≤ 3) (a : Int32) (g : e_G) : f_X9_ofOne SS (nI op) a g = some (t_one op a, g) := by
  unfold f_X9_ofOne t_one
  have k2 : (2 : Int32) = nI 2 := by decide +kernel
  rw [k2]
  simp only [nI_eq (show op < 2 ^ 31 by omega) (show 2 < 2 ^ 31 by omega)]
  split
  · rfl
  · split <;> rfl
theorem x9_opd {op : Nat} (h1 : op ≤ 1) {v : Int32} {a : Nat} {g : e_G} (ha : ArA 0 a 6) (hv : op = 1 → ∃ k, k < 6 ∧ v = nI k) : f_X9_operand SS (nI op) v a g = some (if op = 0 then v else g.1 a v.toNatClampNeg, g) := by
  unfold f_X9_operand
  by_cases h0 : op = 0
  · subst h0
    rw [if_pos nI_0]
    rfl
  · have h11 : op = 1 := by omega
    subst h11
    obtain ⟨k, hk, rfl⟩ := hv rfl
    rw [if_neg (by decide), if_neg (nI_pos (by omega)), aL_ok ha]
    simp only [Option.bind_some]
    rw [if_neg (nI_ge hk (by omega)), aI_ok ha hk (by omega), nI_clamp (by omega)]
    rfl
