/-! the class reads on, as the pure readers do -/
theorem cc_inj : ∀ k, k < 18 → ∀ j, j < 18 → c_cc k = c_cc j → k = j := by decide +kernel
def tot_ : PSt → Nat
  | .inl _ => 0
  | .inr (ts, o) => ts.length + o.length
def CL (t : Nat) (T : Nat → Nat) (z : Nat) (r : Nat → Nat → Option Nat) (f : Nat → Nat → Int32) : PSt → Prop
  | .inl a => a ≤ 160 ∧ f 3 4 = 1001 ∧ f 3 7 = nI a ∧ ∃ k, k ≤ 160 ∧ f (7 + 5 * t) 4 = nI k
  | .inr (ts, o) => RD f r T z ∧ f 3 7 = -1 ∧ ts.length + o.length ≤ 161 ∧ f (7 + 5 * t) 4 = nI o.length ∧ (∀ j (h : j < o.length), f (8 + 5 * t) j = nI o[j].1 ∧ f (9 + 5 * t) j = o[j].2) ∧ ∃ (h : Tkn) (tl : List Tkn) (n nx : Nat), ts = h :: tl ∧ h.1 ≤ 17 ∧ h.2.1 ≤ z ∧ f 3 3 = nI nx ∧ nx ≤ z ∧ (h.1 ≠ 0 → z < n + nx) ∧ f 3 4 = c_cc h.1 ∧ f 3 5 = nI h.2.1 ∧ (h.1 = 2 ∨ h.1 = 3 → f 3 6 = h.2.2) ∧ tl = if h.1 = 0 then [] else c_toks T z n nx
def KR (t : Nat) (f f' : Nat → Nat → Int32) : Prop := ∀ b, b ≠ 3 → b ≠ 7 + 5 * t → b ≠ 8 + 5 * t → b ≠ 9 + 5 * t → f' b = f b
theorem KR.trans {t : Nat} {f f' f'' : Nat → Nat → Int32} (h : KR t f f') (k : KR t f' f'') : KR t f f'' := fun b h1 h2 h3 h4 => (k b h1 h2 h3 h4).trans (h b h1 h2 h3 h4)
/-- the refs that a reader needs -/
def RT (t : Nat) (r : Nat → Nat → Option Nat) : Prop := t < 6 ∧ r 3 1 = some (7 + 5 * t) ∧ ∀ f, e_gR SS (f, r) 9 (7 + 5 * t) 0 = some (8 + 5 * t) ∧ e_gR SS (f, r) 9 (7 + 5 * t) 1 = some (9 + 5 * t) ∧ e_gR SS (f, r) 9 (7 + 5 * t) 3 = some (11 + 5 * t)
theorem RT.r1 {t : Nat} {r : Nat → Nat → Option Nat} (h : RT t r) (f : Nat → Nat → Int32) : e_gR SS (f, r) 5 3 1 = some (7 + 5 * t) := by
  unfold e_gR
  rw [if_pos ob5]
  exact h.2.1
theorem CL.tok {t : Nat} {T : Nat → Nat} {z : Nat} {r : Nat → Nat → Option Nat} {f : Nat → Nat → Int32} {s : PSt} (h : CL t T z r f s) : f 3 4 = c_cc (p_tok s) ∧ p_tok s ≤ 17 := by
  cases s with
  | inl a => exact ⟨h.2.1, by show 1 ≤ 17; omega⟩
  | inr w =>
    obtain ⟨ts, o⟩ := w
    obtain ⟨-, -, -, -, -, h, tl, n, nx, rfl, h1, -, -, -, -, h2, -⟩ := h
    exact ⟨h2, h1⟩
theorem CL.is {t : Nat} {T : Nat → Nat} {z : Nat} {r : Nat → Nat → Option Nat} {f : Nat → Nat → Int32} {s : PSt} (h : CL t T z r f s) {c : Int32} {k : Nat} (hk : k < 18) (hc : c = c_cc k) : (f 3 4 = c) = (p_tok s = k) := by
  obtain ⟨h1, h2⟩ := h.tok
  rw [h1, hc]
  exact propext ⟨fun e => cc_inj _ (by omega) _ hk e, fun e => by rw [e]⟩
theorem tot_step (s : PSt) : tot_ (p_step s) ≤ tot_ s := by
  unfold p_step
  split
  · simp [tot_]
  · exact Nat.le_refl _
theorem tot_fail (s : PSt) : tot_ (p_fail s) ≤ tot_ s := by
  unfold p_fail
  split
  · simp [tot_]
  · exact Nat.le_refl _
theorem tot_add (s : PSt) (op : Nat) (v : Int32) : tot_ (p_add op v s) ≤ tot_ s + 1 := by
  unfold p_add
  split
  · simp [tot_]; omega
  · omega
theorem cl_step {t : Nat} {T : Nat → Nat} {z : Nat} {r : Nat → Nat → Option Nat} {f : Nat → Nat → Int32} {s : PSt} (ht : t < 6) (h : CL t T z r f s) (hk : 2 ≤ p_tok s) : ∃ f', f_X5_step SS 3 (f, r) = some (f', r) ∧ CL t T z r f' (p_step s) ∧ KR t f f' ∧ tot_ (p_step s) + 1 ≤ tot_ s := by
  cases s with
  | inl a => exact absurd hk (by show ¬ 2 ≤ 1; omega)
  | inr w =>
    obtain ⟨ts, o⟩ := w
    obtain ⟨hR, h7, hl, h4, ho, h, tl, n, nx, rfl, w1, w2, w3, w4, w5, w6, w7, w8, w9⟩ := h
    have hk : 2 ≤ h.1 := hk
    rw [if_neg (by omega)] at w9
    have w5 := w5 (by omega)
    obtain ⟨n, rfl⟩ : ∃ q, n = q + 1 := ⟨n - 1, by omega⟩
    obtain ⟨f', a1, a2, a3, a4, a5, a6, a7, a8⟩ := x5_step hR w3 w4
    obtain ⟨b1, b2, b3, b4, b5, b6, b7⟩ := lx_sp (T := T) w4
    have hl : tl.length + 1 + o.length ≤ 161 := hl
    refine ⟨f', a1, ⟨⟨hR.1, a3.trans hR.2.1, hR.2.2.1, fun k hk => by rw [a2 4 (by omega)]; exact hR.2.2.2 k hk⟩, a4.trans h7, by omega, by rw [a2 _ (by omega)]; exact h4, fun j hj => by rw [a2 _ (by omega), a2 _ (by omega)]; exact ho j hj, ?_⟩, fun b e _ _ _ => a2 b e, by simp [tot_, p_step]; omega⟩
    rw [w9, c_toks]
    exact ⟨_, _, n, _, rfl, b1, b2, a5, b3, fun e => (by have := b4 e; omega), a6, a7, a8, rfl⟩
theorem cl_fail {t : Nat} {T : Nat → Nat} {z : Nat} {r : Nat → Nat → Option Nat} {f : Nat → Nat → Int32} {s : PSt} (ht : t < 6) (h : CL t T z r f s) : ∃ f', f_X5_fail SS 3 (f, r) = some (f', r) ∧ CL t T z r f' (p_fail s) ∧ KR t f f' := by
  unfold f_X5_fail J_X5_fail_16
  rw [if_pos ob5, gI_ok ob5, Option.bind_some]
  cases s with
  | inl a =>
    obtain ⟨a1, a2, a3, a4⟩ := h
    rw [show (f, r).1 3 7 = nI a from a3, if_neg (fun e => by have := nI_pos (n := a) (by omega); rw [e] at this; exact this (by decide)), sI_ok ob5, Option.bind_some]
    refine ⟨e_up f 3 4 1001, rfl, ⟨a1, e_up_eq, by rw [e_up_ne (Or.inr (by omega))]; exact a3, ?_⟩, fun b e _ _ _ => e_up_row e⟩
    obtain ⟨k, k1, k2⟩ := a4
    exact ⟨k, k1, by rw [e_up_row (by omega)]; exact k2⟩
  | inr w =>
    obtain ⟨ts, o⟩ := w
    obtain ⟨hR, h7, hl, h4, ho, h, tl, n, nx, rfl, w1, w2, w3, w4, w5, w6, w7, w8, w9⟩ := h
    have hl : tl.length + 1 + o.length ≤ 161 := hl
    have z160 := hR.2.2.1
    rw [show (f, r).1 3 7 = -1 from h7, if_pos rfl]
    simp only [gI_ok ob5, sI_ok ob5, Option.bind_some]
    refine ⟨e_up (e_up f 3 7 (nI h.2.1)) 3 4 1001, by rw [w7], ⟨by omega, e_up_eq, by rw [e_up_ne (Or.inr (by omega)), e_up_eq], o.length, by omega, by rw [e_up_row (by omega), e_up_row (by omega)]; exact h4⟩, fun b e _ _ _ => by rw [e_up_row e, e_up_row e]⟩
theorem cl_add {t : Nat} {T : Nat → Nat} {z : Nat} {r : Nat → Nat → Option Nat} {f : Nat → Nat → Int32} {s : PSt} (hT : RT t r) (h : CL t T z r f s) (hs : tot_ s ≤ 160) {op : Nat} {c v : Int32} (hc : c = nI op) : ∃ f', f_X9_add SS (7 + 5 * t) c v (f, r) = some (f', r) ∧ CL t T z r f' (p_add op v s) ∧ KR t f f' := by
  subst hc
  have ht := hT.1
  have A8 := (arT t ht).1
  have A9 := (arT t ht).2.1
  have k160 : (160 : Int32) = nI 160 := by decide +kernel
  have add : ∀ k, k < 160 → f (7 + 5 * t) 4 = nI k → f_X9_add SS (7 + 5 * t) (nI op) v (f, r) = some (e_up (e_up (e_up f (8 + 5 * t) k (nI op)) (9 + 5 * t) k v) (7 + 5 * t) 4 (nI (k + 1)), r) := by
    intro k hk e
    unfold f_X9_add
    rw [if_pos (obT t ht), gI_ok (obT t ht), Option.bind_some, show (f, r).1 (7 + 5 * t) 4 = nI k from e, if_pos (by rw [k160]; exact nI_lt hk (by omega)), (hT.2.2 f).1, Option.bind_some, Option.bind_some, aS_ok A8 hk (by omega), Option.bind_some, (hT.2.2 _).2.1, Option.bind_some, gI_ok (obT t ht), Option.bind_some]
    rw [show (e_up f (8 + 5 * t) k (nI op), r).1 (7 + 5 * t) 4 = nI k by show e_up f _ _ _ _ _ = _; rw [e_up_ne (Or.inl (by omega))]; exact e, aS_ok A9 hk (by omega), Option.bind_some, gI_ok (obT t ht), Option.bind_some, sI_ok (obT t ht), Option.bind_some]
    rw [show (e_up (e_up f (8 + 5 * t) k (nI op)) (9 + 5 * t) k v, r).1 (7 + 5 * t) 4 = nI k by show e_up (e_up f _ _ _) _ _ _ _ _ = _; rw [e_up_ne (Or.inl (by omega)), e_up_ne (Or.inl (by omega))]; exact e, nI_1]
  have kr : ∀ k, KR t f (e_up (e_up (e_up f (8 + 5 * t) k (nI op)) (9 + 5 * t) k v) (7 + 5 * t) 4 (nI (k + 1))) := fun k b h1 h2 h3 h4 => by rw [e_up_row h2, e_up_row h4, e_up_row h3]
  have k3 : ∀ k, (e_up (e_up (e_up f (8 + 5 * t) k (nI op)) (9 + 5 * t) k v) (7 + 5 * t) 4 (nI (k + 1))) 3 = f 3 := fun k => by rw [e_up_row (by omega), e_up_row (by omega), e_up_row (by omega)]
  have k4 : ∀ k, (e_up (e_up (e_up f (8 + 5 * t) k (nI op)) (9 + 5 * t) k v) (7 + 5 * t) 4 (nI (k + 1))) 4 = f 4 := fun k => by rw [e_up_row (by omega), e_up_row (by omega), e_up_row (by omega)]
  cases s with
  | inl a =>
    obtain ⟨a1, a2, a3, k, k1, k2⟩ := h
    by_cases y : k < 160
    · refine ⟨_, add k y k2, ⟨a1, by rw [k3]; exact a2, by rw [k3]; exact a3, k + 1, by omega, e_up_eq⟩, kr k⟩
    · refine ⟨f, ?_, ⟨a1, a2, a3, k, k1, k2⟩, fun _ _ _ _ _ => rfl⟩
      unfold f_X9_add
      rw [if_pos (obT t ht), gI_ok (obT t ht), Option.bind_some, show (f, r).1 (7 + 5 * t) 4 = nI k from k2, if_neg (by rw [k160]; exact nI_nlt (by omega) (by omega))]
  | inr w =>
    obtain ⟨ts, o⟩ := w
    obtain ⟨hR, h7, hl, h4, ho, h, tl, n, nx, rfl, w1, w2, w3, w4, w5, w6, w7, w8, w9⟩ := h
    have hs : tl.length + 1 + o.length ≤ 160 := hs
    refine ⟨_, add o.length (by omega) h4, ⟨⟨hR.1, by rw [k3]; exact hR.2.1, hR.2.2.1, fun k hk => by rw [k4]; exact hR.2.2.2 k hk⟩, by rw [k3]; exact h7, by simp; omega, by rw [e_up_eq, List.length_append]; rfl, ?_, h, tl, n, nx, rfl, w1, w2, by rw [k3]; exact w3, w4, w5, by rw [k3]; exact w6, by rw [k3]; exact w7, by rw [k3]; exact w8, w9⟩, kr _⟩
    intro j hj
    rw [List.length_append] at hj
    have hj : j < o.length + 1 := hj
    rw [e_up_row (show 8 + 5 * t ≠ 7 + 5 * t by omega), e_up_row (show 8 + 5 * t ≠ 9 + 5 * t by omega), e_up_row (show 9 + 5 * t ≠ 7 + 5 * t by omega)]
    by_cases y : j = o.length
    · subst y
      rw [e_up_eq, e_up_eq]
      simp
    · rw [e_up_ne (Or.inr y), e_up_ne (Or.inr y), e_up_ne (Or.inr y), List.getElem_append_left (by omega)]
      exact ho j (by omega)
