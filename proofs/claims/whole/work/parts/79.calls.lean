/-! the calls: count, dawn, force, asks, told, street -/
theorem z10 : ((1 : Int32) = 0) = False := by decide
theorem SQ.n {f : Nat → Nat → Int32} {r : Nat → Nat → Option Nat} {o n : Nat} {tk : Nat → Nat → List (Nat × Int32)} {s : Nat → Nat → Int32} (h : SQ f r o n tk s) : f o 6 = nI n := h.cs.2.2.1
theorem SQ.d {f : Nat → Nat → Int32} {r : Nat → Nat → Option Nat} {o n : Nat} {tk : Nat → Nat → List (Nat × Int32)} {s : Nat → Nat → Int32} (h : SQ f r o n tk s) : f o 7 = s 0 7 := by
  obtain ⟨s0, h1, h2⟩ := h
  exact (congrFun (h1.2.2.1 0 (by omega)) 7).trans h2.1.1
theorem SQ.l {f : Nat → Nat → Int32} {r : Nat → Nat → Option Nat} {o n : Nat} {tk : Nat → Nat → List (Nat × Int32)} {s : Nat → Nat → Int32} (h : SQ f r o n tk s) : f o 8 = s 0 8 := by
  obtain ⟨s0, h1, h2⟩ := h
  exact (congrFun (h1.2.2.1 0 (by omega)) 8).trans h2.1.2
theorem SQ.day {f : Nat → Nat → Int32} {r : Nat → Nat → Option Nat} {o n : Nat} {tk : Nat → Nat → List (Nat × Int32)} {s : Nat → Nat → Int32} (h : SQ f r o n tk s) (v : Int32) : SQ (e_up f o 7 v) r o n tk (e_up s 0 7 v) := by
  obtain ⟨s0, h1, h2⟩ := h
  exact ⟨_, h1.day v, h2.up 0 7 v⟩
theorem SQ.setl {f : Nat → Nat → Int32} {r : Nat → Nat → Option Nat} {o n : Nat} {tk : Nat → Nat → List (Nat × Int32)} {s : Nat → Nat → Int32} (h : SQ f r o n tk s) {t : Nat} (ht : t < 6) (hT : TX (f, r) t (tk t)) (hk : t_ok (tk t)) : SQ (e_up f o 8 (nI t)) r o n tk (e_up s 0 8 (nI t)) := by
  obtain ⟨s0, h1, h2⟩ := h
  have hb := h1.1.2.1.big
  have r0 : ∀ b, b ≠ o → e_up f o 8 (nI t) b = f b := fun b hb => e_up_row hb
  refine ⟨e_up s0 0 8 (nI t), ⟨⟨h1.1.1, h1.1.2.1, ?_, h1.1.2.2.2⟩, ?_, ?_, ?_⟩, h2.up 0 8 _⟩
  · show e_up f o 8 (nI t) o 6 = _
    rw [e_up_ne (Or.inr (by omega))]
    exact h1.1.2.2.1
  · intro t' ht' e
    have e : e_up f o 8 (nI t) o 8 = nI t' := e
    rw [e_up_eq] at e
    have := nI_inj (by omega) (by omega) e
    subst this
    exact ⟨hT.of (r0 _ (by omega)) (r0 _ (by omega)) (r0 _ (by omega)), hk⟩
  · intro q hq
    show e_up f o 8 (nI t) (o + q) = _
    by_cases e : q = 0
    · subst e
      funext k
      rw [Nat.add_zero, e_up_at, e_up_at]
      rw [show f o = s0 0 from h1.2.2.1 0 hq]
    · rw [r0 _ (by omega), show e_up s0 0 8 (nI t) q = s0 q from e_up_row e]
      exact h1.2.2.1 q hq
  · intro p hp
    obtain ⟨k, hk, e⟩ := h1.2.2.2 p hp
    exact ⟨k, hk, by rw [show e_up s0 0 8 (nI t) 4 = s0 4 from e_up_row (by omega)]; exact e⟩
theorem MW.setl {f : Nat → Nat → Int32} {r : Nat → Nat → Option Nat} {n : Nat} {tk : Nat → Nat → List (Nat × Int32)} {s : Nat → Nat → Int32} (h : MW f r n tk s) {t : Nat} (ht : t < 6) (hT : RX (f, r) t (tk t)) (hk : t_ok (tk t)) : MW (e_up f 76 10 (nI t)) r n tk (e_up s 0 8 (nI t)) := by
  obtain ⟨h1, h2, h3, -⟩ := h
  have row : ∀ b, b ≠ 76 → e_up f 76 10 (nI t) b = f b := fun b hb => e_up_row hb
  refine ⟨⟨h1.1, ?_, h1.2.2⟩, ?_, h3, t, ht, e_up_eq, hT.of (row 81 (by omega)) (row 82 (by omega)), hk⟩
  · show e_up f 76 10 (nI t) 76 0 = _
    rw [e_up_ne (Or.inr (by omega))]
    exact h1.2.1
  · refine w_eq.trans (t := e_up (m_s f) 0 8 (nI t)) ⟨⟨?_, ?_⟩, fun b b1 b2 p hp => ?_⟩ (h2.up 0 8 _)
    · rw [e_up_ne (Or.inr (by omega))]
      show e_up f 76 10 (nI t) 76 4 = f 76 4
      rw [e_up_ne (Or.inr (by omega))]
    · rw [e_up_eq]
      show e_up f 76 10 (nI t) 76 10 = nI t
      rw [e_up_eq]
    · rw [e_up_ne (Or.inl (by omega))]
      match b, b1, b2 with
      | 1, _, _ => show e_up f 76 10 (nI t) 79 _ = f 79 _; rw [row 79 (by omega)]
      | 2, _, _ => show e_up f 76 10 (nI t) 79 _ = f 79 _; rw [row 79 (by omega)]
      | 3, _, _ => show e_up f 76 10 (nI t) 79 _ = f 79 _; rw [row 79 (by omega)]
      | 4, _, _ => show e_up f 76 10 (nI t) 77 _ = f 77 _; rw [row 77 (by omega)]
      | 5, _, _ => show e_up f 76 10 (nI t) 78 _ = f 78 _; rw [row 78 (by omega)]
      | 6, _, _ => show e_up f 76 10 (nI t) 79 _ = f 79 _; rw [row 79 (by omega)]
/-- a number out of its bounds, or in them -/
theorem arg3 (x M M1 : Int32) (m : Nat) (hM : M = nI m) (hM1 : M1 = nI (m + 1)) (hm : m + 1 < 2 ^ 31) : (x < 0 ∧ s_in x 0 M = 0) ∨ (¬ x < 0 ∧ M < x ∧ M1 ≤ x ∧ ¬ x ≤ M ∧ ¬ x < M1 ∧ s_in x 0 M = 0) ∨ ∃ k, k ≤ m ∧ x = nI k ∧ ¬ x < 0 ∧ ¬ M < x ∧ ¬ M1 ≤ x ∧ x ≤ M ∧ x < M1 ∧ s_in x 0 M = 1 := by
  unfold s_in
  by_cases a : x < 0
  · exact Or.inl ⟨a, if_pos a⟩
  · have em : M.toInt = m := by rw [hM]; exact nI_toInt (by omega)
    have em1 : M1.toInt = (m : Int) + 1 := by rw [hM1]; exact nI_toInt (by omega)
    by_cases b : M < x
    · have b' := Int32.lt_iff_toInt_lt.mp b
      exact Or.inr (Or.inl ⟨a, b, Int32.le_iff_toInt_le.mpr (by omega), fun z => by have := Int32.le_iff_toInt_le.mp z; omega, fun z => by have := Int32.lt_iff_toInt_lt.mp z; omega, by rw [if_neg a, if_pos b]⟩)
    · have b' : ¬ M.toInt < x.toInt := fun z => b (Int32.lt_iff_toInt_lt.mpr z)
      have c : x < M1 := Int32.lt_iff_toInt_lt.mpr (by omega)
      obtain ⟨k, h1, h2⟩ := nI_ex (x := x) (n := m + 1) (by omega) a (by rw [← hM1]; exact c)
      exact Or.inr (Or.inr ⟨k, by omega, h2, a, b, fun z => by have := Int32.le_iff_toInt_le.mp z; omega, Int32.le_iff_toInt_le.mpr (by omega), c, by rw [if_neg a, if_neg b]⟩)
theorem ok_count : OK_count SS Inv_ := by
  intro g a1 hI
  obtain ⟨f, r⟩ := g
  obtain ⟨n, tc, tz, tk, s, h⟩ := hI
  have h : IN f r n tc tz tk s := h
  have hG : GG (f, r) := h.1.cs.1
  have h10 := rf10 hG
  have b52 : e_ob SS 7 52 = true := obS (Or.inl rfl)
  obtain ⟨b, hb, eb⟩ := s_bits_ex (s 6) h.1.le
  have e0 : f 76 0 = nI n := h.2.1.1.2.1
  have e4 : f 76 4 = s 0 7 := h.2.1.2.1.1.1
  have e10 : f 76 10 = s 0 8 := h.2.1.2.1.1.2
  refine ask0 h (if a1 = 0 then nI n else if a1 = 1 then nI (c_ones b) else if a1 = 2 then s 0 7 else if a1 = 3 then nI tc else if a1 = 4 then s 0 8 else if a1 = 5 then nI tz else -2) ?_ ?_
  · unfold f_X10_count
    rw [if_pos ob10]
    simp only [h10, Option.bind_some, gI_ok b52, gI_ok ob10, sq_bits h.1, eb, cnt_c hb, h.1.n, h.1.d, h.1.l, h.2.2.1.1, h.2.2.2.1.1]
    (repeat' split) <;> first | rfl | contradiction
  · unfold f_X11_count
    rw [if_pos ob11]
    simp only [Option.bind_some, gI_ok ob11, mw_bits h.2.1, eb, cnt_m hb, e0, e4, e10, h.2.2.1.2.1, h.2.2.2.1.2.1]
    (repeat' split) <;> first | rfl | contradiction
theorem ok_dawn : OK_dawn SS Inv_ := by
  intro g a1 hI
  obtain ⟨f, r⟩ := g
  obtain ⟨n, tc, tz, tk, s, h⟩ := hI
  have h : IN f r n tc tz tk s := h
  have hG : GG (f, r) := h.1.cs.1
  have h10 := rf10 hG
  have b52 : e_ob SS 7 52 = true := obS (Or.inl rfl)
  rcases arg3 a1 999 1000 999 (by decide +kernel) (by decide +kernel) (by omega) with ⟨q1, q2⟩ | ⟨q1, q2, q3, q4, q5, q6⟩ | ⟨k, hk, e, q1, q2, q3, q4, q5, q6⟩
  · exact ask0 h (-2) (by unfold f_X10_dawn; rw [if_pos ob10, if_pos q1]) (by unfold f_X11_dawn; rw [if_pos ob11, m_in, Option.bind_some, q2]; rfl)
  · exact ask0 h (-2) (by unfold f_X10_dawn; rw [if_pos ob10, if_neg q1, if_neg q4]) (by unfold f_X11_dawn; rw [if_pos ob11, m_in, Option.bind_some, q6]; rfl)
  · have e4 : e_up f 52 7 a1 76 4 = s 0 7 := by rw [e_up_row (by omega)]; exact h.2.1.2.1.1.1
    refine do_ (s 0 7) (f1 := e_up f 52 7 a1) (f2 := e_up (e_up f 52 7 a1) 76 4 a1) (n := n) (tc := tc) (tz := tz) (tk := tk) (s := e_up s 0 7 a1) ?_ ?_ ⟨?_, ?_, ?_⟩
    · unfold f_X10_dawn
      rw [if_pos ob10, if_neg q1, if_pos q4]
      simp only [h10, Option.bind_some, gI_ok b52, sI_ok b52, h.1.d]
    · unfold f_X11_dawn
      rw [if_pos ob11, m_in, Option.bind_some, q6]
      simp only [z10, if_false, Option.bind_some, gI_ok ob11, sI_ok ob11, e4]
    · exact (h.1.day a1).of (fun j _ => e_up_row (by omega)) (fun b hb _ => e_up_row (by omega))
    · have h' : MW (e_up f 52 7 a1) r n tk s := h.2.1.of (by rw [e_up_row (by omega)]) (by rw [e_up_row (by omega)]) (by rw [e_up_row (by omega)]) (e_up_row (by omega)) (e_up_row (by omega)) (fun j _ => by rw [e_up_row (by omega)]) (e_up_row (by omega)) (e_up_row (by omega))
      exact h'.day a1
    · obtain ⟨t, t1, t2⟩ := h.2.2.2.2.2.1
      exact h.2.2.of ((FR.up (by omega)).trans (FR.up76 (by omega))) ⟨t, t1, by rw [e_up_ne (Or.inr (by omega))]; exact t2⟩ ⟨k, hk, by rw [e_up_eq]; exact e⟩ (fun p _ => ⟨by rw [e_up_row (by omega)], by rw [e_up_row (by omega)]⟩)
theorem ok_force : OK_force SS Inv_ := by
  intro g a1 hI
  obtain ⟨f, r⟩ := g
  obtain ⟨n, tc, tz, tk, s, h⟩ := hI
  have h : IN f r n tc tz tk s := h
  have hG : GG (f, r) := h.1.cs.1
  have h10 := rf10 hG
  have b52 : e_ob SS 7 52 = true := obS (Or.inl rfl)
  have t6 := h.2.2.1.2.2.2
  have e9 := h.2.2.1.1
  have e9' := h.2.2.1.2.1
  rcases s_has_or t6 a1 with z | ⟨k, hk, e, z⟩
  · have z1 : s_in a1 0 (nI tc - 1) = 0 := by rw [s_in_has t6]; exact z
    refine ask0 h (-2) ?_ ?_
    · unfold f_X10_force
      rw [if_pos ob10]
      simp only [gI_ok ob10, Option.bind_some, e9]
      unfold s_has at z
      split at z
      next q => rw [if_pos q]
      next q =>
        split at z
        next q2 => rw [if_neg q, if_neg (fun y => by have := Int32.le_iff_toInt_le.mp q2; have := Int32.lt_iff_toInt_lt.mp y; omega)]
        next q2 => exact absurd z (by decide)
    · unfold f_X11_force
      rw [if_pos ob11]
      simp only [gI_ok ob11, Option.bind_some, e9', m_in, z1]
      rfl
  · subst e
    have z1 : s_in (nI k) 0 (nI tc - 1) = 1 := by rw [s_in_has t6]; exact z
    have e10 : e_up f 52 8 (nI k) 76 10 = s 0 8 := by rw [e_up_row (by omega)]; exact h.2.1.2.1.1.2
    have e9'' : e_up f 52 8 (nI k) 76 9 = nI tc := by rw [e_up_row (by omega)]; exact e9'
    obtain ⟨hT, hR, hk2⟩ := h.2.2.2.2.1 k hk
    refine do_ (s 0 8) (f1 := e_up f 52 8 (nI k)) (f2 := e_up (e_up f 52 8 (nI k)) 76 10 (nI k)) (n := n) (tc := tc) (tz := tz) (tk := tk) (s := e_up s 0 8 (nI k)) ?_ ?_ ⟨?_, ?_, ?_⟩
    · unfold f_X10_force
      rw [if_pos ob10, if_neg (nI_pos (by omega))]
      simp only [h10, Option.bind_some, gI_ok ob10, gI_ok b52, sI_ok b52, h.1.l, e9]
      rw [if_pos (nI_lt hk (by omega))]
    · unfold f_X11_force
      rw [if_pos ob11]
      simp only [gI_ok ob11, Option.bind_some, e9'', m_in, z1, z10, if_false, sI_ok ob11, e10]
    · exact (h.1.setl (by omega) hT hk2).of (fun j _ => e_up_row (by omega)) (fun b hb _ => e_up_row (by omega))
    · have h' : MW (e_up f 52 8 (nI k)) r n tk s := h.2.1.of (by rw [e_up_row (by omega)]) (by rw [e_up_row (by omega)]) (by rw [e_up_row (by omega)]) (e_up_row (by omega)) (e_up_row (by omega)) (fun j _ => by rw [e_up_row (by omega)]) (e_up_row (by omega)) (e_up_row (by omega))
      exact h'.setl (by omega) (hR.of (e_up_row (by omega)) (e_up_row (by omega))) hk2
    · obtain ⟨d, d1, d2⟩ := h.2.2.2.2.2.2.1
      exact h.2.2.of ((FR.up (by omega)).trans (FR.up76 (by omega))) ⟨k, hk, by rw [e_up_eq]⟩ ⟨d, d1, by rw [e_up_ne (Or.inr (by omega))]; exact d2⟩ (fun p _ => ⟨by rw [e_up_row (by omega)], by rw [e_up_row (by omega)]⟩)
theorem ok_asks : OK_asks SS Inv_ := by
  intro g a1 a2 hI
  obtain ⟨f, r⟩ := g
  obtain ⟨n, tc, tz, tk, s, h⟩ := hI
  have h : IN f r n tc tz tk s := h
  have hG : GG (f, r) := h.1.cs.1
  have h10 := rf10 hG
  rcases arg3 a1 2 3 2 (by decide +kernel) (by decide +kernel) (by omega) with ⟨q1, q2⟩ | ⟨q1, q2, q3, q4, q5, q6⟩ | ⟨q, hq, rfl, q1, q2, q3, q4, q5, q6⟩
  · exact ask0 h (-1000) (by unfold f_X10_asks; rw [if_pos ob10, if_pos q1]) (by unfold f_X11_asks; rw [if_pos ob11, m_in, Option.bind_some, q2]; rfl)
  · exact ask0 h (-1000) (by unfold f_X10_asks; rw [if_pos ob10, if_neg q1, if_pos q3]) (by unfold f_X11_asks; rw [if_pos ob11, m_in, Option.bind_some, q6]; rfl)
  · rcases s_has_or h.1.le a2 with z | ⟨p, hp, rfl, z⟩
    · refine ask0 h (-1000) ?_ ?_
      · unfold f_X10_asks
        rw [if_pos ob10, if_neg q1, if_neg q3]
        simp only [h10, Option.bind_some, sq_has h.1, z, if_true]
      · unfold f_X11_asks
        rw [if_pos ob11, m_in, Option.bind_some, q6]
        simp only [z10, if_false, mw_one h.2.1, Option.bind_some, z, if_true]
    · refine ask_ h (s_say tk (s 0 8) q (w_nm s n p)) ?_ (fun f1 h1 => ?_)
      · obtain ⟨f', b1, b2⟩ := sq_says h.1 hp (q := q) (by omega)
        refine ⟨f', ?_, KT.ke b2⟩
        unfold f_X10_asks
        rw [if_pos ob10, if_neg q1, if_neg q3]
        simp only [h10, Option.bind_some, sq_has h.1, z, z10, if_false, b1]
      · obtain ⟨f', b1, b2⟩ := m_say h1.2.1 hp (q := q) (by omega)
        refine ⟨f', ?_, KM.ka b2⟩
        unfold f_X11_asks
        rw [if_pos ob11, m_in, Option.bind_some, q6]
        simp only [z10, if_false, mw_one h1.2.1, Option.bind_some, z, b1]
theorem ok_street : OK_street SS Inv_ := by
  intro g a1 hI
  obtain ⟨f, r⟩ := g
  obtain ⟨n, tc, tz, tk, s, h⟩ := hI
  have h : IN f r n tc tz tk s := h
  have hG : GG (f, r) := h.1.cs.1
  have h10 := rf10 hG
  refine ask0 h (if a1 = 0 then s_meets (s 1) (s 2) n else if a1 = 1 then s_cross (s 1) (s 2) n else if a1 = 2 then (s_most (s 2) n).2 else if a1 = 3 then s_lookers (s 2) n (s_most (s 2) n).2 else if a1 = 4 then s_unseen (s 1) (s 2) n else -2) ?_ ?_
  · unfold f_X10_street
    rw [if_pos ob10]
    simp only [h10, Option.bind_some, sq_meets h.1, sq_cross h.1, sq_most h.1, sq_lookers h.1, sq_unseen h.1]
    (repeat' split) <;> first | rfl | contradiction
  · unfold f_X11_street
    rw [if_pos ob11]
    simp only [Option.bind_some, mw_meets h.2.1, mw_cross h.2.1, mw_most h.2.1, mw_lookers h.2.1, mw_unseen h.2.1]
    (repeat' split) <;> first | rfl | contradiction
theorem ok_told : OK_told SS Inv_ := by
  intro g a1 a2 hI
  obtain ⟨f, r⟩ := g
  obtain ⟨n, tc, tz, tk, s, h⟩ := hI
  have h : IN f r n tc tz tk s := h
  have hG : GG (f, r) := h.1.cs.1
  have h10 := rf10 hG
  have h11 := rf11 hG
  have hS : IsS 52 := Or.inl rfl
  have h7 := rfS hG hS
  rcases s_has_or h.1.le a1 with z | ⟨p, hp, rfl, z⟩
  · refine ask0 h (-5000) ?_ ?_
    · unfold f_X10_told
      rw [if_pos ob10]
      simp only [h10, Option.bind_some, sq_has h.1, z, if_true]
    · unfold f_X11_told
      rw [if_pos ob11]
      simp only [mw_one h.2.1, Option.bind_some, z, if_true]
  · have hp6 : p < 6 := h.2.1.lt hp
    have c1 : f 53 p = s 1 p := h.1.row (j := 1) (by omega) (by omega) p hp
    have c2 : f 54 p = s 2 p := h.1.row (j := 2) (by omega) (by omega) p hp
    have c3 : f 55 p = s 3 p := h.1.row (j := 3) (by omega) (by omega) p hp
    have c4 : f 56 p = s 4 p := h.1.row (j := 4) (by omega) (by omega) p hp
    have c5 : f 57 p = s 5 p := h.1.row (j := 5) (by omega) (by omega) p hp
    have c6 : f 58 p = s 6 p := h.1.row (j := 6) (by omega) (by omega) p hp
    have d1 : m_W (f, r) p = s 1 p := h.2.1.row (j := 1) (by omega) (by omega) p hp
    have d2 : m_L (f, r) p = s 2 p := h.2.1.row (j := 2) (by omega) (by omega) p hp
    have d3 : m_N (f, r) p = s 3 p := h.2.1.row (j := 3) (by omega) (by omega) p hp
    have d4 : f 77 p = s 4 p := h.2.1.row (j := 4) (by omega) (by omega) p hp
    have d5 : f 78 p = s 5 p := h.2.1.row (j := 5) (by omega) (by omega) p hp
    have d6 : m_K (f, r) p = s 6 p := h.2.1.row (j := 6) (by omega) (by omega) p hp
    have A := arS hS
    have w6 := (h.2.1.2.2.1.1 p hp).2.1
    have aW0 : e_aI SS (f, r) 0 79 ((4 : Int32) * nI p + 0) = some (m_W (f, r) p) := by rw [Int32.add_zero]; exact m_aW (f, r) hp6
    have key : ∀ w : Int32, f_X10_told SS 0 (nI p) a2 (f, r) = some (w, (f, r)) → f_X11_told SS 76 (nI p) a2 (f, r) = some (w, (f, r)) → ∃ (v : Int32) (g1 g2 : e_G), f_X10_told SS 0 (nI p) a2 (f, r) = some (v, g1) ∧ f_X11_told SS 76 (nI p) a2 g1 = some (v, g2) ∧ Inv_ g2 := fun w x y => ask0 h w x y
    by_cases n0 : a2 = 0
    · subst n0
      refine key (s 1 p) ?_ ?_
      · unfold f_X10_told
        rw [if_pos ob10]
        simp only [h10, Option.bind_some, sq_has h.1, z, z10, if_false, if_true, h7, aI_ok A.1 hp6 (by omega), c1]
      · unfold f_X11_told
        rw [if_pos ob11]
        simp only [mw_one h.2.1, Option.bind_some, z, z10, if_false, if_true, J_X11_told_68, h11, aW0, d1]
    by_cases n1 : a2 = 1
    · subst n1
      refine key (s 2 p) ?_ ?_
      · unfold f_X10_told
        rw [if_pos ob10]
        simp only [h10, Option.bind_some, sq_has h.1, z, z10, if_false, if_true, h7, aI_ok A.2.1 hp6 (by omega), c2]
      · unfold f_X11_told
        rw [if_pos ob11]
        simp only [mw_one h.2.1, Option.bind_some, z, z10, if_false, if_true, J_X11_told_68, h11, m_aL (f, r) hp6, d2]
    by_cases n2 : a2 = 2
    · subst n2
      have x0 : ((2 : Int32) = 0) = False := by decide
      have x1 : ((2 : Int32) = 1) = False := by decide
      refine key (s 3 p) ?_ ?_
      · unfold f_X10_told
        rw [if_pos ob10]
        simp only [h10, Option.bind_some, sq_has h.1, z, z10, x0, x1, if_false, if_true, h7, aI_ok A.2.2.1 hp6 (by omega), c3]
      · unfold f_X11_told
        rw [if_pos ob11]
        simp only [mw_one h.2.1, Option.bind_some, z, z10, x0, x1, if_false, if_true, J_X11_told_68, h11, m_aN (f, r) hp6, d3]
    by_cases n3 : a2 = 3
    · refine key (s 4 p) ?_ ?_
      · unfold f_X10_told
        rw [if_pos ob10]
        simp only [h10, Option.bind_some, sq_has h.1, z, z10, if_false]
        rw [if_neg n0, if_neg n1, if_neg n2, if_pos n3]
        simp only [h7, Option.bind_some, aI_ok A.2.2.2.1 hp6 (by omega), c4]
      · unfold f_X11_told
        rw [if_pos ob11]
        simp only [mw_one h.2.1, Option.bind_some, z, z10, if_false]
        rw [if_neg n0, if_neg n1, if_neg n2, if_pos n3]
        simp only [h11, Option.bind_some, aI_ok arM.1 hp6 (by omega), d4]
    by_cases n4 : a2 = 4
    · refine key (s 5 p) ?_ ?_
      · unfold f_X10_told
        rw [if_pos ob10]
        simp only [h10, Option.bind_some, sq_has h.1, z, z10, if_false]
        rw [if_neg n0, if_neg n1, if_neg n2, if_neg n3, if_pos n4]
        simp only [h7, Option.bind_some, aI_ok A.2.2.2.2.1 hp6 (by omega), c5]
      · unfold f_X11_told
        rw [if_pos ob11]
        simp only [mw_one h.2.1, Option.bind_some, z, z10, if_false]
        rw [if_neg n0, if_neg n1, if_neg n2, if_neg n3, if_pos n4]
        simp only [h11, Option.bind_some, aI_ok arM.2.1 hp6 (by omega), d5]
    by_cases n5 : a2 = 5
    · refine key (s 6 p) ?_ ?_
      · unfold f_X10_told
        rw [if_pos ob10]
        simp only [h10, Option.bind_some, sq_has h.1, z, z10, if_false]
        rw [if_neg n0, if_neg n1, if_neg n2, if_neg n3, if_neg n4, if_pos n5]
        simp only [h7, Option.bind_some, aI_ok A.2.2.2.2.2.1 hp6 (by omega), c6]
        rcases w6 with y | y
        · rw [y]; rfl
        · rw [y]; rfl
      · unfold f_X11_told
        rw [if_pos ob11]
        simp only [mw_one h.2.1, Option.bind_some, z, z10, if_false]
        rw [if_neg n0, if_neg n1, if_neg n2, if_neg n3, if_neg n4, if_pos n5]
        simp only [h11, Option.bind_some, m_aK (f, r) hp6, d6]
    by_cases n6 : a2 = 6
    · refine key (s_who (s 1) n (s 2 p)) ?_ ?_
      · unfold f_X10_told
        rw [if_pos ob10]
        simp only [h10, Option.bind_some, sq_has h.1, z, z10, if_false]
        rw [if_neg n0, if_neg n1, if_neg n2, if_neg n3, if_neg n4, if_neg n5, if_pos n6]
        simp only [h7, Option.bind_some, aI_ok A.2.1 hp6 (by omega), c2, sq_who h.1]
      · unfold f_X11_told
        rw [if_pos ob11]
        simp only [mw_one h.2.1, Option.bind_some, z, z10, if_false]
        rw [if_neg n0, if_neg n1, if_neg n2, if_neg n3, if_neg n4, if_neg n5, if_pos n6]
        simp only [h11, Option.bind_some, m_aL (f, r) hp6, d2, mw_who h.2.1]
    by_cases n7 : a2 = 7
    · refine ask_ h (w_lean tk s n p) ?_ (fun f1 h1 => ?_)
      · obtain ⟨f', b1, b2⟩ := sq_lean h.1 hp
        refine ⟨f', ?_, KT.ke b2⟩
        unfold f_X10_told
        rw [if_pos ob10]
        simp only [h10, Option.bind_some, sq_has h.1, z, z10, if_false]
        rw [if_neg n0, if_neg n1, if_neg n2, if_neg n3, if_neg n4, if_neg n5, if_neg n6, if_pos n7]
        simp only [b1, Option.bind_some]
      · obtain ⟨f', b1, b2⟩ := m_lean h1.2.1 hp
        refine ⟨f', ?_, KM.ka b2⟩
        unfold f_X11_told
        rw [if_pos ob11]
        simp only [mw_one h1.2.1, Option.bind_some, z, z10, if_false]
        rw [if_neg n0, if_neg n1, if_neg n2, if_neg n3, if_neg n4, if_neg n5, if_neg n6, if_pos n7]
        simp only [b1, Option.bind_some]
    by_cases n8 : a2 = 8
    · refine ask_ h (w_hold tk s n p) ?_ (fun f1 h1 => ?_)
      · obtain ⟨f', b1, b2⟩ := sq_hold h.1 hp
        refine ⟨f', ?_, KT.ke b2⟩
        unfold f_X10_told
        rw [if_pos ob10]
        simp only [h10, Option.bind_some, sq_has h.1, z, z10, if_false]
        rw [if_neg n0, if_neg n1, if_neg n2, if_neg n3, if_neg n4, if_neg n5, if_neg n6, if_neg n7, if_pos n8]
        simp only [b1, Option.bind_some]
      · obtain ⟨f', b1, b2⟩ := m_hold h1.2.1 hp
        refine ⟨f', ?_, KM.ka b2⟩
        unfold f_X11_told
        rw [if_pos ob11]
        simp only [mw_one h1.2.1, Option.bind_some, z, z10, if_false]
        rw [if_neg n0, if_neg n1, if_neg n2, if_neg n3, if_neg n4, if_neg n5, if_neg n6, if_neg n7, if_pos n8]
        simp only [b1, Option.bind_some]
    by_cases n9 : a2 = 9
    · refine ask_ h (w_mind tk s n p) ?_ (fun f1 h1 => ?_)
      · obtain ⟨f', b1, b2⟩ := sq_mind h.1 hp
        refine ⟨f', ?_, KT.ke b2⟩
        unfold f_X10_told
        rw [if_pos ob10]
        simp only [h10, Option.bind_some, sq_has h.1, z, z10, if_false]
        rw [if_neg n0, if_neg n1, if_neg n2, if_neg n3, if_neg n4, if_neg n5, if_neg n6, if_neg n7, if_neg n8, if_pos n9]
        simp only [b1, Option.bind_some]
      · obtain ⟨f', b1, b2⟩ := m_mind h1.2.1 hp
        refine ⟨f', ?_, KM.ka b2⟩
        unfold f_X11_told
        rw [if_pos ob11]
        simp only [mw_one h1.2.1, Option.bind_some, z, z10, if_false]
        rw [if_neg n0, if_neg n1, if_neg n2, if_neg n3, if_neg n4, if_neg n5, if_neg n6, if_neg n7, if_neg n8, if_pos n9]
        simp only [b1, Option.bind_some]
    · refine key (-7000) ?_ ?_
      · unfold f_X10_told
        rw [if_pos ob10]
        simp only [h10, Option.bind_some, sq_has h.1, z, z10, if_false]
        rw [if_neg n0, if_neg n1, if_neg n2, if_neg n3, if_neg n4, if_neg n5, if_neg n6, if_neg n7, if_neg n8, if_neg n9]
      · unfold f_X11_told
        rw [if_pos ob11]
        simp only [mw_one h.2.1, Option.bind_some, z, z10, if_false]
        rw [if_neg n0, if_neg n1, if_neg n2, if_neg n3, if_neg n4, if_neg n5, if_neg n6, if_neg n7, if_neg n8, if_neg n9]
