theorem HT_of {f f' : Nat → Nat → Int32} {r : Nat → Nat → Option Nat} {o : Nat} {tk : Nat → Nat → List (Nat × Int32)} (h : HT (f, r) o tk) (e8 : f' o 8 = f o 8) (eT : ∀ b, b < 42 → f' b = f b) : HT (f', r) o tk := by
  intro t ht e
  have c := h t ht (e8.symm.trans e)
  have a1 : f' (11 + 5 * t) = f (11 + 5 * t) := eT _ (by omega)
  have a2 : f' (8 + 5 * t) = f (8 + 5 * t) := eT _ (by omega)
  have a3 : f' (9 + 5 * t) = f (9 + 5 * t) := eT _ (by omega)
  refine ⟨⟨c.1.1, fun p hp => ?_, fun p hp j hj => ?_⟩, c.2⟩
  · show f' _ _ = _
    rw [a1]
    exact c.1.2.1 p hp
  · show f' _ _ = _ ∧ f' _ _ = _ ∧ _
    rw [a2, a3]
    exact c.1.2.2 p hp j hj
theorem IsS.big {o : Nat} (h : IsS o) : 52 ≤ o ∧ o + 7 < 76 := by rcases h with rfl | rfl | rfl <;> omega
theorem SW.up {f : Nat → Nat → Int32} {r : Nat → Nat → Option Nat} {o n : Nat} {tk : Nat → Nat → List (Nat × Int32)} {s : Nat → Nat → Int32} (h : SW (f, r) o n tk s) {j : Nat} (hj : j = 1 ∨ j = 2 ∨ j = 3 ∨ j = 5 ∨ j = 6) (i : Nat) (v : Int32) : SW (e_up f (o + j) i v, r) o n tk (e_up s j i v) := by
  have hb := h.1.2.1.big
  have r0 : ∀ b, b ≠ o + j → e_up f (o + j) i v b = f b := fun b hb => e_up_row hb
  refine ⟨⟨h.1.1, h.1.2.1, ?_, h.1.2.2.2⟩, HT_of h.2.1 (by rw [r0 o (by omega)]) (fun b hb => r0 b (by omega)), ?_, ?_⟩
  · show e_up f (o + j) i v o 6 = _
    rw [r0 o (by omega)]
    exact h.1.2.2.1
  · intro q hq
    show e_up f (o + j) i v (o + q) = _
    by_cases e : q = j
    · subst e
      funext k
      rw [e_up_at, e_up_at]
      rw [show f (o + q) = s q from h.2.2.1 q hq]
    · rw [r0 _ (by omega), show e_up s j i v q = s q from e_up_row e]
      exact h.2.2.1 q hq
  · intro p hp
    obtain ⟨k, hk, e⟩ := h.2.2.2 p hp
    exact ⟨k, hk, by rw [show e_up s j i v 4 = s 4 from e_up_row (by omega)]; exact e⟩
theorem SW.day {f : Nat → Nat → Int32} {r : Nat → Nat → Option Nat} {o n : Nat} {tk : Nat → Nat → List (Nat × Int32)} {s : Nat → Nat → Int32} (h : SW (f, r) o n tk s) (v : Int32) : SW (e_up f o 7 v, r) o n tk (e_up s 0 7 v) := by
  have hb := h.1.2.1.big
  have r0 : ∀ b, b ≠ o → e_up f o 7 v b = f b := fun b hb => e_up_row hb
  refine ⟨⟨h.1.1, h.1.2.1, ?_, h.1.2.2.2⟩, HT_of h.2.1 (by rw [e_up_ne (Or.inr (by omega))]) (fun b hb => r0 b (by omega)), ?_, ?_⟩
  · show e_up f o 7 v o 6 = _
    rw [e_up_ne (Or.inr (by omega))]
    exact h.1.2.2.1
  · intro q hq
    show e_up f o 7 v (o + q) = _
    by_cases e : q = 0
    · subst e
      funext k
      rw [Nat.add_zero, e_up_at, e_up_at]
      rw [show f o = s 0 from h.2.2.1 0 hq]
    · rw [r0 _ (by omega), show e_up s 0 7 v q = s q from e_up_row e]
      exact h.2.2.1 q hq
  · intro p hp
    obtain ⟨k, hk, e⟩ := h.2.2.2 p hp
    exact ⟨k, hk, by rw [show e_up s 0 7 v 4 = s 4 from e_up_row (by omega)]; exact e⟩
/-- what a passing day may touch -/
def KP (o : Nat) (f f' : Nat → Nat → Int32) : Prop := ∀ b, NS b → b ≠ o → b ≠ o + 3 → b ≠ o + 6 → f' b = f b
theorem KP.trans {o : Nat} {f f' f'' : Nat → Nat → Int32} (h : KP o f f') (k : KP o f' f'') : KP o f f'' := fun b h1 h2 h3 h4 => (k b h1 h2 h3 h4).trans (h b h1 h2 h3 h4)
theorem KP.ke {o : Nat} {f f' : Nat → Nat → Int32} (h : KE f f') : KP o f f' := fun b h1 _ _ _ => h b h1
theorem KP.up {o j : Nat} {f : Nat → Nat → Int32} {i : Nat} {v : Int32} (hj : j = 0 ∨ j = 3 ∨ j = 6) : KP o f (e_up f (o + j) i v) := fun b _ h2 h3 h4 => e_up_row (by omega)
def w_new (tk : Nat → Nat → List (Nat × Int32)) (n : Nat) (s : Nat → Nat → Int32) (i : Nat) : Nat → Nat → Int32 := e_up s 3 i (s_bound (s 3 i + w_lean tk s n i) 0 99)
def w_step (tk : Nat → Nat → List (Nat × Int32)) (n i : Nat) (a : Int32 × (Nat → Nat → Int32)) : Int32 × (Nat → Nat → Int32) := if a.2 6 i = 0 then (if w_new tk n a.2 i 3 i ≤ w_hold tk (w_new tk n a.2 i) n i then (a.1, w_new tk n a.2 i) else (a.1 ||| ((1 : Int32) <<< (nI i &&& 31)), e_up (w_new tk n a.2 i) 6 i 1)) else a
def w_walk (tk : Nat → Nat → List (Nat × Int32)) (n : Nat) (s : Nat → Nat → Int32) (i : Nat) : Int32 × (Nat → Nat → Int32) := itF (σ := Int32 × (Nat → Nat → Int32)) (w_step tk n) i 0 (0, s)
/-- a day passes: who came to be kept, and the street after -/
def w_day (tk : Nat → Nat → List (Nat × Int32)) (n : Nat) (s : Nat → Nat → Int32) : Int32 × (Nat → Nat → Int32) := ((w_walk tk n s n).1, e_up (w_walk tk n s n).2 0 7 ((w_walk tk n s n).2 0 7 + 1))
theorem cs_day {g : e_G} {o n : Nat} {tk : Nat → Nat → List (Nat × Int32)} {s : Nat → Nat → Int32} (h : SW g o n tk s) : ∃ f', f_X7_passDay SS o g = some ((w_day tk n s).1, (f', g.2)) ∧ KP o g.1 f' ∧ SW (f', g.2) o n tk (w_day tk n s).2 := by
  have hS := h.1.2.1
  have h6 := h.1.2.2.2
  unfold f_X7_passDay
  rw [if_pos (obS hS)]
  have key := loopR (L := fun m i (a : Int32 × (Nat → Nat → Int32)) => L_X7_passDay_4 m SS o a.1 i (a.2, g.2)) (n := n)
    (I := fun i a => KP o g.1 a.2 ∧ a.1 = (w_walk tk n s i).1 ∧ SW (a.2, g.2) o n tk (w_walk tk n s i).2)
    (P := fun r => r.1 = (w_day tk n s).1 ∧ ∃ f', r.2 = (f', g.2) ∧ KP o g.1 f' ∧ SW (f', g.2) o n tk (w_day tk n s).2)
    (fun m a hI => by
      obtain ⟨i1, i2, i3⟩ := hI
      have hn : a.2 o 6 = nI n := i3.1.2.2.1
      have v0 : a.2 o = (w_walk tk n s n).2 0 := i3.2.2.1 0 (by omega)
      refine ⟨(a.1, (e_up a.2 o 7 (a.2 o 7 + 1), g.2)), ?_, i2, e_up a.2 o 7 (a.2 o 7 + 1), rfl, i1.trans (KP.up (j := 0) (by omega)), ?_⟩
      · show L_X7_passDay_4 (m + 1) SS o a.1 (nI n) (a.2, g.2) = _
        rw [L_X7_passDay_4]
        simp only [gI_ok (obS hS), Option.bind_some, hn]
        rw [if_pos (nI_le (Nat.le_refl n) (by omega))]
        simp only [sI_ok (obS hS), Option.bind_some]
      · have := i3.day (a.2 o 7 + 1)
        rw [v0] at this ⊢
        exact this)
    (fun m i a hi hI => by
      obtain ⟨i1, i2, i3⟩ := hI
      have hn : a.2 o 6 = nI n := i3.1.2.2.1
      have v6 : a.2 (o + 6) = (w_walk tk n s i).2 6 := i3.2.2.1 6 (by omega)
      have v3 : a.2 (o + 3) = (w_walk tk n s i).2 3 := i3.2.2.1 3 (by omega)
      have nx : w_walk tk n s (i + 1) = w_step tk n i (w_walk tk n s i) := itF_next i _
      show ∃ s', L_X7_passDay_4 (m + 1) SS o a.1 (nI i) (a.2, g.2) = _ ∧ _
      rw [L_X7_passDay_4]
      simp only [gI_ok (obS hS), Option.bind_some, hn, (rfS i3.1.1 hS).2.2.2.2.2.1, (rfS i3.1.1 hS).2.2.1]
      rw [if_neg (nI_ge hi (by omega)), aI_ok (arS hS).2.2.2.2.2.1 (by omega) (by omega), aI_ok (arS hS).2.2.1 (by omega) (by omega)]
      simp only [Option.bind_some, v6, v3]
      by_cases q : (w_walk tk n s i).2 6 i = 0
      · rw [if_pos q]
        obtain ⟨f2, b1, b2⟩ := cs_lean i3 (p := i) hi
        have w2 := i3.ke b2
        obtain ⟨f3, hf3⟩ : ∃ f, f = e_up f2 (o + 3) i (s_bound ((w_walk tk n s i).2 3 i + w_lean tk (w_walk tk n s i).2 n i) 0 99) := ⟨_, rfl⟩
        have w3 := w2.up (j := 3) (by omega) i (s_bound ((w_walk tk n s i).2 3 i + w_lean tk (w_walk tk n s i).2 n i) 0 99)
        rw [show e_up (f2, g.2).1 (o + 3) i (s_bound ((w_walk tk n s i).2 3 i + w_lean tk (w_walk tk n s i).2 n i) 0 99) = f3 from hf3.symm] at w3
        change SW (f3, g.2) o n tk (w_new tk n (w_walk tk n s i).2 i) at w3
        have k3 : KP o g.1 f3 := (i1.trans (KP.ke b2)).trans (by rw [hf3]; exact KP.up (j := 3) (by omega))
        obtain ⟨f4, c1, c2⟩ := cs_hold w3 (p := i) hi
        have w4 := w3.ke c2
        have k4 : KP o g.1 f4 := k3.trans (KP.ke c2)
        have v3' : f3 (o + 3) = w_new tk n (w_walk tk n s i).2 i 3 := w3.2.2.1 3 (by omega)
        rw [b1]
        simp only [Option.bind_some, f_X7_bounded]
        rw [show i_max 0 (i_min 99 ((w_walk tk n s i).2 3 i + w_lean tk (w_walk tk n s i).2 n i)) = s_bound ((w_walk tk n s i).2 3 i + w_lean tk (w_walk tk n s i).2 n i) 0 99 from rfl, aS_ok (arS hS).2.2.1 (by omega) (by omega)]
        simp only [Option.bind_some]
        rw [← hf3]
        simp only [(rfS w3.1.1 hS).2.2.1, Option.bind_some]
        rw [aI_ok (arS hS).2.2.1 (by omega) (by omega)]
        simp only [Option.bind_some, c1, v3']
        by_cases q2 : w_new tk n (w_walk tk n s i).2 i 3 i ≤ w_hold tk (w_new tk n (w_walk tk n s i).2 i) n i
        · rw [if_pos q2]
          refine ⟨(a.1, f4), by rw [J_X7_passDay_75, nI_1], k4, ?_⟩
          rw [nx, w_step, if_pos q, if_pos q2]
          exact ⟨i2, w4⟩
        · rw [if_neg q2]
          simp only [(rfS w4.1.1 hS).2.2.2.2.2.1, Option.bind_some]
          rw [aSz_ok (arS hS).2.2.2.2.2.1 (by omega) (by omega)]
          have nar : vp_nar .boolean (1 : Int32) = 1 := by decide +kernel
          simp only [Option.bind_some, nar]
          refine ⟨(a.1 ||| ((1 : Int32) <<< (nI i &&& 31)), e_up f4 (o + 6) i 1), by rw [J_X7_passDay_75, nI_1], k4.trans (KP.up (j := 6) (by omega)), ?_⟩
          rw [nx, w_step, if_pos q, if_neg q2]
          exact ⟨by rw [i2], w4.up (j := 6) (by omega) i 1⟩
      · rw [if_neg q]
        refine ⟨a, by rw [J_X7_passDay_75, nI_1], i1, ?_⟩
        rw [nx, w_step, if_neg q]
        exact ⟨i2, i3⟩)
    n 0 50000 ((0 : Int32), g.1) (by omega) (by omega) ⟨fun _ _ _ _ _ => rfl, rfl, h⟩
  have h0 : nI 0 = (0 : Int32) := nI_0
  rw [h0] at key
  obtain ⟨r, k1, k2, f', k3, k4, k5⟩ := key
  refine ⟨f', k1.trans ?_, k4, k5⟩
  obtain ⟨r1, r2⟩ := r
  simp only at k2 k3
  rw [k2, k3]
