/-! untangle, pure: orders by their numbers, and by steps from one to the next -/
theorem nI_m1 (k : Nat) : nI (k + 1) + (-1 : Int32) = nI k := by
  rw [← nI_1, Int32.add_assoc, show (1 : Int32) + -1 = 0 by decide +kernel, Int32.add_zero]
/-- whether no look goes to two: j digits are left to read -/
def u_pm (m : Nat) : Nat → Nat → Nat → Bool
  | 0, _, seen => Nat.beq seen (2 ^ m - 1)
  | j + 1, left, seen => u_pm m j (left / m) (seen ||| 2 ^ (left % m))
/-- the digits, each one more -/
def u_dg (m : Nat) : Nat → Nat → Nat → Nat → Nat
  | 0, _, _, a => a
  | j + 1, left, t, a => u_dg m j (left / m) (t * 10) (a + t * (left % m + 1))
/-- whose look the k-th has -/
def u_q (m n k : Nat) : Nat := (n / m ^ (m - 1 - k)) % m
/-- the class's digits -/
def u_dc (q : Nat → Nat) : Nat → Nat
  | 0 => 0
  | k + 1 => 10 * u_dc q k + q k + 1
def u_low (a : Nat → Nat) : Nat → Option Nat
  | 0 => none
  | k + 1 => if a k ≤ a (k + 1) then some k else u_low a k
def u_high (a : Nat → Nat) (low : Nat) : Nat → Nat
  | 0 => 0
  | h + 1 => if h + 1 ≤ low then h + 1 else if a low ≤ a (h + 1) then h + 1 else u_high a low h
def u_sw (a : Nat → Nat) (i j : Nat) : Nat → Nat := fun k => if k = j then a i else if k = i then a j else a k
def u_rev : Nat → Nat → Nat → (Nat → Nat) → (Nat → Nat)
  | 0, _, _, a => a
  | c + 1, i, j, a => if j ≤ i then a else u_rev c (i + 1) (j - 1) (u_sw a i j)
def u_nx (m : Nat) (a : Nat → Nat) : Option (Nat → Nat) := match u_low a (m - 1) with
  | none => none
  | some low => some (u_rev 6 (low + 1) (m - 1) (u_sw a low (u_high a low (m - 1))))
def u_all (P : Nat → Bool) : Nat → Bool
  | 0 => true
  | k + 1 => P k && u_all P k
theorem u_all_sp {P : Nat → Bool} : ∀ {n}, u_all P n = true → ∀ k, k < n → P k = true := by
  intro n
  induction n with
  | zero => intro _ k hk; omega
  | succ n ih =>
    intro h k hk
    rw [u_all, Bool.and_eq_true] at h
    by_cases e : k = n
    · rw [e]; exact h.1
    · exact ih h.2 k (by omega)
/-- from the order of one number the class steps to that of another -/
def u_ok (m n0 n : Nat) : Bool := match u_nx m (u_q m n0) with
  | none => false
  | some a => u_all (fun k => Nat.beq (a k) (u_q m n k)) m
def u_end (m n0 : Nat) : Bool := match u_nx m (u_q m n0) with
  | none => true
  | some _ => false
/-- the number's digits are those of its order -/
def u_dk (m n : Nat) : Bool := Nat.beq (u_dg m m n 1 0) (u_dc (u_q m n) m)
def u_idn (m n : Nat) : Bool := u_all (fun k => Nat.beq (u_q m n k) k) m
/-- a step over a number: the last order met, and how many steps the class has left (720: none met yet) -/
def u_st (m n : Nat) (n0 c : Nat) : Option (Nat × Nat) :=
  if u_pm m m n 0 = true then
    (if u_dk m n = true then
      (match c with
      | 0 => none
      | c + 1 => if c = 719 then (if u_idn m n = true then some (n, 719) else none) else if u_ok m n0 n = true then some (n, c) else none)
    else none)
  else some (n0, c)
def u_go (m : Nat) : Nat → Nat → Nat → Nat → Option (Nat × Nat)
  | 0, _, n0, c => some (n0, c)
  | k + 1, n, n0, c => match u_st m n n0 c with
    | none => none
    | some q => u_go m k (n + 1) q.1 q.2
theorem u_go_add (m : Nat) : ∀ a b n n0 c, u_go m (a + b) n n0 c = (u_go m a n n0 c).bind fun q => u_go m b (n + a) q.1 q.2 := by
  intro a
  induction a with
  | zero => intro b n n0 c; rw [Nat.zero_add]; rfl
  | succ a ih =>
    intro b n n0 c
    rw [Nat.add_right_comm, u_go, u_go]
    cases u_st m n n0 c with
    | none => rfl
    | some q => 
      show u_go m (a + b) (n + 1) q.1 q.2 = (u_go m a (n + 1) q.1 q.2).bind _
      rw [ih, show n + 1 + a = n + (a + 1) by omega]
/-- blocks of numbers -/
def u_bl (m b : Nat) : Nat → Nat → Nat → Nat → Option (Nat × Nat)
  | 0, _, n0, c => some (n0, c)
  | k + 1, n, n0, c => match u_go m b n n0 c with
    | none => none
    | some q => u_bl m b k (n + b) q.1 q.2
theorem u_bl_go (m b : Nat) : ∀ k n n0 c, u_bl m b k n n0 c = u_go m (k * b) n n0 c := by
  intro k
  induction k with
  | zero => intro n n0 c; rw [Nat.zero_mul]; rfl
  | succ k ih =>
    intro n n0 c
    rw [Nat.succ_mul, Nat.add_comm (k * b) b, u_go_add, u_bl]
    cases u_go m b n n0 c with
    | none => rfl
    | some q => exact ih _ _ _
def u_fin (m : Nat) (o : Option (Nat × Nat)) : Bool := match o with
  | none => false
  | some q => u_end m q.1 && decide (q.2 ≤ 719)
theorem u_1 : u_fin 1 (u_bl 1 1 1 0 0 720) = true := by decide +kernel
theorem u_2 : u_fin 2 (u_bl 2 2 2 0 0 720) = true := by decide +kernel
theorem u_3 : u_fin 3 (u_bl 3 9 3 0 0 720) = true := by decide +kernel
theorem u_4 : u_fin 4 (u_bl 4 16 16 0 0 720) = true := by decide +kernel
theorem u_5 : u_fin 5 (u_bl 5 125 25 0 0 720) = true := by decide +kernel
theorem u_6 : u_fin 6 (u_bl 6 216 216 0 0 720) = true := by decide +kernel
theorem u_fact {m : Nat} (h1 : 1 ≤ m) (h6 : m ≤ 6) : ∃ n1 c1, u_go m (m ^ m) 0 0 720 = some (n1, c1) ∧ u_end m n1 = true ∧ c1 ≤ 719 := by
  have key : ∀ b k, u_fin m (u_bl m b k 0 0 720) = true → k * b = m ^ m → ∃ n1 c1, u_go m (m ^ m) 0 0 720 = some (n1, c1) ∧ u_end m n1 = true ∧ c1 ≤ 719 := by
    intro b k h e
    rw [u_bl_go, e] at h
    cases r : u_go m (m ^ m) 0 0 720 with
    | none => rw [r] at h; exact absurd (show false = true from h) (by decide)
    | some q =>
      rw [r] at h
      have h : (u_end m q.1 && decide (q.2 ≤ 719)) = true := h
      rw [Bool.and_eq_true, decide_eq_true_eq] at h
      exact ⟨q.1, q.2, rfl, h.1, h.2⟩
  rcases (by omega : m = 1 ∨ m = 2 ∨ m = 3 ∨ m = 4 ∨ m = 5 ∨ m = 6) with rfl | rfl | rfl | rfl | rfl | rfl
  · exact key _ _ u_1 (by decide)
  · exact key _ _ u_2 (by decide)
  · exact key _ _ u_3 (by decide)
  · exact key _ _ u_4 (by decide)
  · exact key _ _ u_5 (by decide)
  · exact key _ _ u_6 (by decide +kernel)
theorem u_q_lt {m : Nat} (h : 0 < m) (n k : Nat) : u_q m n k < m := Nat.mod_lt _ h
