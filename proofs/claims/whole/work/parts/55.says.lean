def t_at (tk : Nat → List (Nat × Int32)) : Nat → Nat
  | 0 => 0
  | p + 1 => t_at tk p + (tk p).length
/-- the class's text t is these tokens, part by part -/
def TX (g : e_G) (t : Nat) (tk : Nat → List (Nat × Int32)) : Prop :=
  t_at tk 3 ≤ 160 ∧ (∀ p, p < 3 → g.1 (11 + 5 * t) p = nI (t_at tk (p + 1))) ∧ ∀ p, p < 3 → ∀ j (h : j < (tk p).length), g.1 (8 + 5 * t) (t_at tk p + j) = nI ((tk p)[j]).1 ∧ g.1 (9 + 5 * t) (t_at tk p + j) = ((tk p)[j]).2 ∧ tokOK (tk p)[j]
def t_ok (tk : Nat → List (Nat × Int32)) : Prop := ∀ p, p < 3 → ∀ nm : Nat → Int32, ∃ v, evT nm (tk p) [] = some [v]
def t_val (nm : Nat → Int32) (ts : List (Nat × Int32)) : Int32 := match evT nm ts [] with
  | some (v :: _) => v
  | _ => 0
theorem t_at_le {tk : Nat → List (Nat × Int32)} (h : t_at tk 3 ≤ 160) {p : Nat} (hp : p < 3) : t_at tk p + (tk p).length ≤ 160 := by
  have e3 : t_at tk 3 = t_at tk 2 + (tk 2).length := rfl
  have e2 : t_at tk 2 = t_at tk 1 + (tk 1).length := rfl
  have e1 : t_at tk 1 = t_at tk 0 + (tk 0).length := rfl
  match p, hp with
  | 0, _ => omega
  | 1, _ => omega
  | 2, _ => omega
theorem x9_value {g : e_G} {t : Nat} {tk : Nat → List (Nat × Int32)} (hG : GG g) (ht : t < 6) (hT : TX g t tk) (hk : t_ok tk) {a : Nat} (ha : ArA 0 a 6) (han : a ≠ 10 + 5 * t) {p : Nat} (hp : p < 3) {nm : Nat → Int32} (hnm : ∀ k, k < 6 → g.1 a k = nm k) :
    ∃ f' : Nat → Nat → Int32, f_X9_value SS (7 + 5 * t) (nI p) a g = some (t_val nm (tk p), (f', g.2)) ∧ ∀ b, b ≠ 10 + 5 * t → f' b = g.1 b := by
  obtain ⟨v, hv⟩ := hk p hp nm
  have e : t_val nm (tk p) = v := by unfold t_val; rw [hv]
  rw [e]
  have hle := t_at_le hT.1 hp
  obtain ⟨f', h1, h2⟩ := tx_loop ht ha han hp (nm := nm) (tk p) (t_at tk p) [] g 50000 hG (hT.2.1 p hp) hle (fun j h => hT.2.2 p hp j h) (by simp) (fun j h => by simp at h) (by omega) hnm v [] hv
  refine ⟨f', ?_, h2⟩
  unfold f_X9_value
  rw [if_pos (obT t ht), if_neg (nI_pos (by omega))]
  have k3 : (3 : Int32) = nI 3 := by decide +kernel
  rw [if_pos (by rw [k3]; exact nI_lt hp (by omega))]
  have h0 : nI ([] : List Int32).length = (0 : Int32) := nI_0
  rw [h0] at h1
  by_cases q : p = 0
  · subst q
    rw [if_pos nI_0]
    unfold J_X9_value_29
    have e0 : nI (t_at tk 0) = (0 : Int32) := nI_0
    rw [e0] at h1
    exact h1
  · rw [if_neg (nI_ne0 (by omega) (by omega))]
    obtain ⟨r, rfl⟩ : ∃ r, p = r + 1 := ⟨p - 1, by omega⟩
    rw [nI_pred]
    simp only [(rfT hG t ht).2.2.2, Option.bind_some, aI_ok (arT t ht).2.2.2 (show r < 3 by omega) (by omega : 3 < 2 ^ 31), hT.2.1 r (by omega), J_X9_value_29]
    exact h1
/-- what the names say of one -/
def s_names (W Lk Ln Kp Mr : Nat → Int32) (n : Nat) (day : Int32) (p : Nat) : Nat → Int32 := fun k => if k = 0 then Ln p else if k = 1 then i_abs (i_rem (W p) 10 - i_rem (Lk p) 10) else if k = 2 then s_beside W Kp n p else if k = 3 then day else if k = 4 then s_lookers Lk n (W p) else Mr p
theorem CS.up {g : e_G} {o n : Nat} (h : CS g o n) {f : Nat → Nat → Int32} (hf : f o 6 = g.1 o 6) : CS (f, g.2) o n := ⟨h.1, h.2.1, hf.trans h.2.2.1, h.2.2.2⟩
theorem cs_fill {g : e_G} {o n : Nat} (h : CS g o n) {p : Nat} (hp : p < 6) : ∃ f' : Nat → Nat → Int32, f_X7_fillNames SS o (nI p) g = some (f', g.2) ∧ (∀ b, b ≠ o + 7 → f' b = g.1 b) ∧ ∀ k, k < 6 → f' (o + 7) k = s_names (g.1 (o + 1)) (g.1 (o + 2)) (g.1 (o + 3)) (g.1 (o + 6)) (g.1 (o + 5)) n (g.1 o 7) p k := by
  have hS := h.2.1
  have hG := h.1
  have a7 := (arS hS).2.2.2.2.2.2
  have l6 : 6 < 2 ^ 31 := by omega
  have k0 : (0 : Int32) = nI 0 := by decide +kernel
  have k1 : (1 : Int32) = nI 1 := by decide +kernel
  have k2 : (2 : Int32) = nI 2 := by decide +kernel
  have k3 : (3 : Int32) = nI 3 := by decide +kernel
  have k4 : (4 : Int32) = nI 4 := by decide +kernel
  have k5 : (5 : Int32) = nI 5 := by decide +kernel
  have row : ∀ (f : Nat → Nat → Int32) (k b : Nat) (v : Int32), b ≠ o + 7 → e_up f (o + 7) k v b = f b := fun f k b v hb => e_up_row hb
  obtain ⟨f1, hf1⟩ : ∃ f, f = e_up g.1 (o + 7) 0 (g.1 (o + 3) p) := ⟨_, rfl⟩
  obtain ⟨f2, hf2⟩ : ∃ f, f = e_up f1 (o + 7) 1 (i_abs (i_rem (g.1 (o + 1) p) 10 - i_rem (g.1 (o + 2) p) 10)) := ⟨_, rfl⟩
  obtain ⟨f3, hf3⟩ : ∃ f, f = e_up f2 (o + 7) 2 (s_beside (g.1 (o + 1)) (g.1 (o + 6)) n p) := ⟨_, rfl⟩
  obtain ⟨f4, hf4⟩ : ∃ f, f = e_up f3 (o + 7) 3 (g.1 o 7) := ⟨_, rfl⟩
  obtain ⟨f5, hf5⟩ : ∃ f, f = e_up f4 (o + 7) 4 (s_lookers (g.1 (o + 2)) n (g.1 (o + 1) p)) := ⟨_, rfl⟩
  obtain ⟨f6, hf6⟩ : ∃ f, f = e_up f5 (o + 7) 5 (g.1 (o + 5) p) := ⟨_, rfl⟩
  have r1 : ∀ b, b ≠ o + 7 → f1 b = g.1 b := fun b hb => by rw [hf1]; exact row _ _ _ _ hb
  have r2 : ∀ b, b ≠ o + 7 → f2 b = g.1 b := fun b hb => by rw [hf2]; exact (row _ _ _ _ hb).trans (r1 b hb)
  have r3 : ∀ b, b ≠ o + 7 → f3 b = g.1 b := fun b hb => by rw [hf3]; exact (row _ _ _ _ hb).trans (r2 b hb)
  have r4 : ∀ b, b ≠ o + 7 → f4 b = g.1 b := fun b hb => by rw [hf4]; exact (row _ _ _ _ hb).trans (r3 b hb)
  have r5 : ∀ b, b ≠ o + 7 → f5 b = g.1 b := fun b hb => by rw [hf5]; exact (row _ _ _ _ hb).trans (r4 b hb)
  have r6 : ∀ b, b ≠ o + 7 → f6 b = g.1 b := fun b hb => by rw [hf6]; exact (row _ _ _ _ hb).trans (r5 b hb)
  have b2 : f_X7_beside SS o (nI p) (f2, g.2) = some (s_beside (g.1 (o + 1)) (g.1 (o + 6)) n p, (f2, g.2)) := by
    have := cs_beside (g := (f2, g.2)) (h.up (by rw [r2 o (by omega)])) hp
    rw [show (f2, g.2).1 (o + 1) = g.1 (o + 1) from r2 _ (by omega), show (f2, g.2).1 (o + 6) = g.1 (o + 6) from r2 _ (by omega)] at this
    exact this
  have b4 : ∀ w, f_X7_lookers SS o w (f4, g.2) = some (s_lookers (g.1 (o + 2)) n w, (f4, g.2)) := by
    intro w
    have := cs_lookers (g := (f4, g.2)) (h.up (by rw [r4 o (by omega)])) w
    rw [show (f4, g.2).1 (o + 2) = g.1 (o + 2) from r4 _ (by omega)] at this
    exact this
  refine ⟨f6, ?_, r6, ?_⟩
  · have gg : ∀ f : Nat → Nat → Int32, GG (f, g.2) := fun f => hG
    unfold f_X7_fillNames
    rw [if_pos (obS hS)]
    simp only [(rfS hG hS).2.2.2.2.2.2.1, (rfS hG hS).2.2.1, Option.bind_some, aI_ok (arS hS).2.2.1 hp l6]
    rw [show (0 : Int32) = nI 0 from k0, aS_ok a7 (by omega) l6]
    simp only [Option.bind_some]
    rw [← hf1]
    simp only [(rfS (gg f1) hS).2.2.2.2.2.2.1, (rfS (gg f1) hS).1, (rfS (gg f1) hS).2.1, Option.bind_some, aI_ok (arS hS).1 hp l6, aI_ok (arS hS).2.1 hp l6, r1 (o + 1) (by omega), r1 (o + 2) (by omega)]
    rw [show (1 : Int32) = nI 1 from k1, aS_ok a7 (by omega) l6]
    simp only [Option.bind_some]
    rw [← hf2]
    simp only [(rfS (gg f2) hS).2.2.2.2.2.2.1, Option.bind_some, b2]
    rw [show (2 : Int32) = nI 2 from k2, aS_ok a7 (by omega) l6]
    simp only [Option.bind_some]
    rw [← hf3]
    simp only [(rfS (gg f3) hS).2.2.2.2.2.2.1, Option.bind_some, gI_ok (obS hS), r3 o (by omega)]
    rw [show (3 : Int32) = nI 3 from k3, aS_ok a7 (by omega) l6]
    simp only [Option.bind_some]
    rw [← hf4]
    simp only [(rfS (gg f4) hS).2.2.2.2.2.2.1, (rfS (gg f4) hS).1, Option.bind_some, aI_ok (arS hS).1 hp l6, r4 (o + 1) (by omega), b4]
    rw [show (4 : Int32) = nI 4 from k4, aS_ok a7 (by omega) l6]
    simp only [Option.bind_some]
    rw [← hf5]
    simp only [(rfS (gg f5) hS).2.2.2.2.2.2.1, (rfS (gg f5) hS).2.2.2.2.1, Option.bind_some, aI_ok (arS hS).2.2.2.2.1 hp l6, r5 (o + 5) (by omega)]
    rw [show (5 : Int32) = nI 5 from k5, aS_ok a7 (by omega) l6]
    simp only [Option.bind_some]
    rw [← hf6]
  · intro k hk
    rw [hf6, e_up_at, hf5, e_up_at, hf4, e_up_at, hf3, e_up_at, hf2, e_up_at, hf1, e_up_at]
    unfold s_names
    match k, hk with
    | 0, _ => rfl
    | 1, _ => rfl
    | 2, _ => rfl
    | 3, _ => rfl
    | 4, _ => rfl
    | 5, _ => rfl
