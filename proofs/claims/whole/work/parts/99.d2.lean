/-! untangle: the class's orders -/
def OD (f : Nat → Nat → Int32) (a : Nat → Nat) (m : Nat) : Prop := ∀ k, k < m → a k < 6 ∧ f 6 k = nI (a k)
theorem r106 {f0 : Nat → Nat → Int32} {r : Nat → Nat → Option Nat} (hG : GG (f0, r)) : ∀ f, e_gR SS (f, r) 10 0 8 = some 6 := fun f => (rf10 (g := (f, r)) hG).2.2.2.2.2.2.2.2
theorem r105 {f0 : Nat → Nat → Int32} {r : Nat → Nat → Option Nat} (hG : GG (f0, r)) : ∀ f, e_gR SS (f, r) 10 0 7 = some 5 := fun f => (rf10 (g := (f, r)) hG).2.2.2.2.2.2.2.1
theorem a6_ {f : Nat → Nat → Int32} {r : Nat → Nat → Option Nat} {i : Nat} (hi : i < 6) : e_aI SS (f, r) 0 6 (nI i) = some (f 6 i) := aI_ok arC.2.2.2.2.1 hi (by omega)
theorem s6_ {f : Nat → Nat → Int32} {r : Nat → Nat → Option Nat} {i : Nat} (hi : i < 6) (v : Int32) : e_aS SS (f, r) 0 6 (nI i) v = some (e_up f 6 i v, r) := aS_ok arC.2.2.2.2.1 hi (by omega)
theorem a5_ {f : Nat → Nat → Int32} {r : Nat → Nat → Option Nat} {i : Nat} (hi : i < 6) : e_aI SS (f, r) 0 5 (nI i) = some (f 5 i) := aI_ok arC.2.2.2.1 hi (by omega)
theorem s5_ {f : Nat → Nat → Int32} {r : Nat → Nat → Option Nat} {i : Nat} (hi : i < 6) (v : Int32) : e_aS SS (f, r) 0 5 (nI i) v = some (e_up f 5 i v, r) := aS_ok arC.2.2.2.1 hi (by omega)
theorem x10_swap {f f0 : Nat → Nat → Int32} {r : Nat → Nat → Option Nat} (hG : GG (f0, r)) {a : Nat → Nat} {m i j : Nat} (h6 : m ≤ 6) (h : OD f a m) (hi : i < m) (hj : j < m) : ∃ f', f_X10_swapInOrder SS 0 (nI i) (nI j) (f, r) = some (f', r) ∧ (∀ b, b ≠ 6 → f' b = f b) ∧ OD f' (u_sw a i j) m := by
  refine ⟨e_up (e_up f 6 i (f 6 j)) 6 j (f 6 i), ?_, fun b hb => by rw [e_up_row hb, e_up_row hb], fun k hk => ?_⟩
  · unfold f_X10_swapInOrder
    rw [if_pos ob10, r106 hG, Option.bind_some, a6_ (by omega), Option.bind_some, Option.bind_some, Option.bind_some, a6_ (by omega), Option.bind_some, s6_ (by omega), Option.bind_some, r106 hG, Option.bind_some, s6_ (by omega), Option.bind_some]
  · rw [e_up_at, e_up_at]
    unfold u_sw
    by_cases y : k = j
    · rw [if_pos y, if_pos y]; exact h i hi
    · rw [if_neg y, if_neg y]
      by_cases z : k = i
      · rw [if_pos z, if_pos z]; exact h j hj
      · rw [if_neg z, if_neg z]; exact h k hk
theorem x10_rev {f0 : Nat → Nat → Int32} {r : Nat → Nat → Option Nat} (hG : GG (f0, r)) {m : Nat} (h6 : m ≤ 6) : ∀ c i j a f fu, OD f a m → j < m → i + c < 100 → j ≤ i + 2 * c → c < fu → ∃ f', L_X10_nextOrder_83 fu SS 0 (nI i) (nI j) (f, r) = some (1, (f', r)) ∧ (∀ b, b ≠ 6 → f' b = f b) ∧ OD f' (u_rev c i j a) m := by
  intro c
  induction c with
  | zero =>
    intro i j a f fu h hj h9 hl hf
    obtain ⟨fu, rfl⟩ : ∃ q, fu = q + 1 := ⟨fu - 1, by omega⟩
    refine ⟨f, ?_, fun _ _ => rfl, h⟩
    rw [L_X10_nextOrder_83, if_pos (nI_le (by omega) (by omega))]
  | succ c ih =>
    intro i j a f fu h hj h9 hl hf
    obtain ⟨fu, rfl⟩ : ∃ q, fu = q + 1 := ⟨fu - 1, by omega⟩
    rw [L_X10_nextOrder_83, u_rev]
    by_cases y : j ≤ i
    · rw [if_pos (nI_le y (by omega)), if_pos y]
      exact ⟨f, rfl, fun _ _ => rfl, h⟩
    · rw [if_neg (nI_ge (by omega) (by omega)), if_neg y]
      obtain ⟨f1, b1, b2, b3⟩ := x10_swap hG h6 h (show i < m by omega) hj
      obtain ⟨j, rfl⟩ : ∃ q, j = q + 1 := ⟨j - 1, by omega⟩
      obtain ⟨f2, c1, c2, c3⟩ := ih (i + 1) j (u_sw a i (j + 1)) f1 fu b3 (by omega) (by omega) (by omega) (by omega)
      refine ⟨f2, ?_, fun b hb => (c2 b hb).trans (b2 b hb), c3⟩
      rw [b1, Option.bind_some, nI_1, nI_m1]
      exact c1
theorem u_high_le (a : Nat → Nat) (low : Nat) : ∀ h, u_high a low h ≤ h := by
  intro h
  induction h with
  | zero => exact Nat.le_refl _
  | succ h ih =>
    rw [u_high]
    split
    · exact Nat.le_refl _
    · split
      · exact Nat.le_refl _
      · omega
theorem u_low_lt (a : Nat → Nat) : ∀ k low, u_low a k = some low → low < k := by
  intro k
  induction k with
  | zero => intro low h; cases h
  | succ k ih =>
    intro low h
    rw [u_low] at h
    split at h
    · cases h; omega
    · have := ih low h; omega
theorem x10_high {f f0 : Nat → Nat → Int32} {r : Nat → Nat → Option Nat} (hG : GG (f0, r)) {a : Nat → Nat} {m low : Nat} (h6 : m ≤ 6) (h : OD f a m) (hl : low < m) : ∀ k fu, k < m → k < fu → L_X10_nextOrder_41 fu SS 0 (nI m) (nI low) (nI k) (f, r) = J_X10_nextOrder_67 SS 0 (nI m) (nI low) (nI (u_high a low k)) (f, r) := by
  intro k
  induction k with
  | zero =>
    intro fu hk hf
    obtain ⟨fu, rfl⟩ : ∃ q, fu = q + 1 := ⟨fu - 1, by omega⟩
    rw [L_X10_nextOrder_41, if_pos (nI_le (by omega) (by omega)), u_high]
  | succ k ih =>
    intro fu hk hf
    obtain ⟨fu, rfl⟩ : ∃ q, fu = q + 1 := ⟨fu - 1, by omega⟩
    rw [L_X10_nextOrder_41, u_high]
    by_cases y : k + 1 ≤ low
    · rw [if_pos (nI_le y (by omega)), if_pos y]
    · have h1 := h low hl
      have h2 := h (k + 1) hk
      rw [if_neg (nI_ge (by omega) (by omega)), if_neg y, r106 hG, Option.bind_some, a6_ (by omega), Option.bind_some, Option.bind_some, a6_ (by omega), Option.bind_some, h1.2, h2.2]
      by_cases z : a low ≤ a (k + 1)
      · rw [if_pos (nI_le z (by omega)), if_pos z]
      · rw [if_neg (nI_ge (by omega) (by omega)), if_neg z, nI_m1]
        exact ih fu (by omega) (by omega)
theorem x10_lowU {f f0 : Nat → Nat → Int32} {r : Nat → Nat → Option Nat} (hG : GG (f0, r)) {a : Nat → Nat} {m : Nat} (h6 : m ≤ 6) (h : OD f a m) : ∀ k fu, k < m → k < fu → L_X10_nextOrder_4 fu SS 0 (nI m) (nI k + -1) (f, r) = match u_low a k with
    | none => some (0, (f, r))
    | some low => L_X10_nextOrder_41 50000 SS 0 (nI m) (nI low) (nI m - 1) (f, r) := by
  intro k
  induction k with
  | zero =>
    intro fu hk hf
    obtain ⟨fu, rfl⟩ : ∃ q, fu = q + 1 := ⟨fu - 1, by omega⟩
    rw [L_X10_nextOrder_4, if_pos (show nI 0 + (-1 : Int32) < 0 by decide +kernel)]
    unfold J_X10_nextOrder_31
    rw [if_neg (show ¬ (0 : Int32) ≤ nI 0 + -1 by decide +kernel), u_low]
  | succ k ih =>
    intro fu hk hf
    obtain ⟨fu, rfl⟩ : ∃ q, fu = q + 1 := ⟨fu - 1, by omega⟩
    have h1 := h k (by omega)
    have h2 := h (k + 1) hk
    rw [nI_m1, L_X10_nextOrder_4, if_neg (nI_pos (by omega)), r106 hG, Option.bind_some, a6_ (by omega), Option.bind_some, Option.bind_some, nI_1, a6_ (by omega), Option.bind_some, h1.2, h2.2, u_low]
    by_cases z : a k ≤ a (k + 1)
    · rw [if_pos (nI_le z (by omega)), if_pos z]
      unfold J_X10_nextOrder_31
      rw [if_pos (nI_pos' (by omega))]
    · rw [if_neg (nI_ge (by omega) (by omega)), if_neg z]
      exact ih fu (by omega) (by omega)
theorem x10_next {f f0 : Nat → Nat → Int32} {r : Nat → Nat → Option Nat} (hG : GG (f0, r)) {a : Nat → Nat} {m : Nat} (h1 : 1 ≤ m) (h6 : m ≤ 6) (h : OD f a m) : (u_nx m a = none → f_X10_nextOrder SS 0 (nI m) (f, r) = some (0, (f, r))) ∧ ∀ a', u_nx m a = some a' → ∃ f', f_X10_nextOrder SS 0 (nI m) (f, r) = some (1, (f', r)) ∧ (∀ b, b ≠ 6 → f' b = f b) ∧ OD f' a' m := by
  have e2 : nI m - (2 : Int32) = nI (m - 1) + -1 := by
    obtain ⟨q, rfl⟩ : ∃ q, m = q + 1 := ⟨m - 1, by omega⟩
    rw [Nat.add_sub_cancel, ← nI_1, Int32.sub_eq_add_neg, Int32.add_assoc, show (1 : Int32) + -2 = -1 by decide +kernel]
  have e1 : nI m - (1 : Int32) = nI (m - 1) := by
    obtain ⟨q, rfl⟩ : ∃ q, m = q + 1 := ⟨m - 1, by omega⟩
    rw [Nat.add_sub_cancel]
    exact nI_pred q
  have run : f_X10_nextOrder SS 0 (nI m) (f, r) = match u_low a (m - 1) with
    | none => some (0, (f, r))
    | some low => L_X10_nextOrder_41 50000 SS 0 (nI m) (nI low) (nI m - 1) (f, r) := by
    unfold f_X10_nextOrder
    rw [if_pos ob10, e2]
    exact x10_lowU hG h6 h (m - 1) 50000 (by omega) (by omega)
  unfold u_nx
  cases e : u_low a (m - 1) with
  | none =>
    rw [e] at run
    exact ⟨fun _ => run, fun a' q => (by cases q)⟩
  | some low =>
    rw [e] at run
    refine ⟨fun q => (by cases q), fun a' q => ?_⟩
    cases q
    have hl := u_low_lt a _ _ e
    have hh := u_high_le a low (m - 1)
    obtain ⟨f1, b1, b2, b3⟩ := x10_swap hG h6 h (show low < m by omega) (show u_high a low (m - 1) < m by omega)
    obtain ⟨f2, c1, c2, c3⟩ := x10_rev hG h6 6 (low + 1) (m - 1) _ f1 50000 b3 (by omega) (by omega) (by omega) (by omega)
    refine ⟨f2, run.trans ?_, fun b hb => (c2 b hb).trans (b2 b hb), c3⟩
    show L_X10_nextOrder_41 50000 SS 0 (nI m) (nI low) (nI m - 1) (f, r) = _
    rw [e1, x10_high hG h6 h (by omega) (m - 1) 50000 (by omega) (by omega)]
    unfold J_X10_nextOrder_67
    rw [b1, Option.bind_some, nI_1, e1]
    exact c1
theorem x10_digits {f f0 : Nat → Nat → Int32} {r : Nat → Nat → Option Nat} (hG : GG (f0, r)) {a : Nat → Nat} {m : Nat} (h6 : m ≤ 6) (h : OD f a m) : f_X10_orderDigits SS 0 (nI m) (f, r) = some (nI (u_dc a m), (f, r)) := by
  have key : ∀ k i fu, i + k = m → k < fu → L_X10_orderDigits_4 fu SS 0 (nI m) (nI (u_dc a i)) (nI i) (f, r) = some (nI (u_dc a m), (f, r)) := by
    intro k
    induction k with
    | zero =>
      intro i fu hi hf
      obtain ⟨fu, rfl⟩ : ∃ q, fu = q + 1 := ⟨fu - 1, by omega⟩
      obtain rfl : i = m := by omega
      rw [L_X10_orderDigits_4, if_pos (nI_le (by omega) (by omega))]
    | succ k ih =>
      intro i fu hi hf
      obtain ⟨fu, rfl⟩ : ∃ q, fu = q + 1 := ⟨fu - 1, by omega⟩
      have e : (10 : Int32) * nI (u_dc a i) + nI (a i) + 1 = nI (u_dc a (i + 1)) := by
        rw [k_10, show nI 10 * nI (u_dc a i) = nI (10 * u_dc a i) from (Int32.ofNat_mul 10 _).symm, nI_add, nI_1, u_dc]
      rw [L_X10_orderDigits_4, if_neg (nI_ge (by omega) (by omega)), r106 hG, Option.bind_some, a6_ (by omega), Option.bind_some, (h i (by omega)).2, e, nI_1]
      exact ih (i + 1) fu (by omega) (by omega)
  unfold f_X10_orderDigits
  rw [if_pos ob10]
  have := key m 0 50000 (by omega) (by omega)
  rw [u_dc, nI_0] at this
  exact this
