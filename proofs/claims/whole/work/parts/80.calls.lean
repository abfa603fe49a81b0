/-! the calls: day, callIn, crane, put, chain -/
theorem w_walk_row (tk : Nat → Nat → List (Nat × Int32)) (n : Nat) (s : Nat → Nat → Int32) {j : Nat} (h3 : j ≠ 3) (h6 : j ≠ 6) : ∀ i, (w_walk tk n s i).2 j = s j := by
  intro i
  induction i with
  | zero => rfl
  | succ i ih =>
    have a : w_walk tk n s (i + 1) = w_step tk n i (w_walk tk n s i) := itF_next i _
    rw [a]
    unfold w_step w_new
    split
    · split
      · show e_up _ 3 i _ j = _
        rw [e_up_row h3, ih]
      · show e_up (e_up _ 3 i _) 6 i _ j = _
        rw [e_up_row h6, e_up_row h3, ih]
    · exact ih
theorem w_day_row (tk : Nat → Nat → List (Nat × Int32)) (n : Nat) (s : Nat → Nat → Int32) {j : Nat} (h0 : j ≠ 0) (h3 : j ≠ 3) (h6 : j ≠ 6) : (w_day tk n s).2 j = s j := by
  show e_up _ 0 7 _ j = _
  rw [e_up_row h0, w_walk_row tk n s h3 h6]
theorem w_day_7 (tk : Nat → Nat → List (Nat × Int32)) (n : Nat) (s : Nat → Nat → Int32) : (w_day tk n s).2 0 7 = s 0 7 + 1 := by
  show e_up (w_walk tk n s n).2 0 7 ((w_walk tk n s n).2 0 7 + 1) 0 7 = _
  rw [e_up_eq, w_walk_row tk n s (by omega) (by omega)]
theorem w_day_8 (tk : Nat → Nat → List (Nat × Int32)) (n : Nat) (s : Nat → Nat → Int32) : (w_day tk n s).2 0 8 = s 0 8 := by
  show e_up (w_walk tk n s n).2 0 7 ((w_walk tk n s n).2 0 7 + 1) 0 8 = _
  rw [e_up_ne (Or.inr (by omega)), w_walk_row tk n s (by omega) (by omega)]
theorem m_st {f : Nat → Nat → Int32} {r : Nat → Nat → Option Nat} {i c : Nat} (hi : i < 6) (hc : c < 4) {z : Int32} (hz : z = nI c) (v : Int32) : e_aS SS (f, r) 0 79 ((4 : Int32) * nI i + z) v = some (e_up f 79 (4 * i + c) v, r) := by
  rw [nI_4j i hz]
  exact aS_ok arM.2.2.1 (by omega) (by omega)
theorem m_stW {f : Nat → Nat → Int32} {r : Nat → Nat → Option Nat} {i : Nat} (hi : i < 6) (v : Int32) : e_aS SS (f, r) 0 79 ((4 : Int32) * nI i) v = some (e_up f 79 (4 * i + 0) v, r) := by
  rw [nI_4]
  exact aS_ok arM.2.2.1 (by omega) (by omega)
theorem MW.hi {f f' : Nat → Nat → Int32} {r : Nat → Nat → Option Nat} {n : Nat} {tk : Nat → Nat → List (Nat × Int32)} {s : Nat → Nat → Int32} (h : MW f r n tk s) (e : ∀ b, 76 ≤ b → f' b = f b) : MW f' r n tk s :=
  h.of (by rw [e 76 (by omega)]) (by rw [e 76 (by omega)]) (by rw [e 76 (by omega)]) (e 77 (by omega)) (e 78 (by omega)) (fun j _ => by rw [e 79 (by omega)]) (e 81 (by omega)) (e 82 (by omega))
theorem SQ.lo {f f' : Nat → Nat → Int32} {r : Nat → Nat → Option Nat} {o n : Nat} {tk : Nat → Nat → List (Nat × Int32)} {s : Nat → Nat → Int32} (h : SQ f r o n tk s) (e : ∀ b, b < 76 → f' b = f b) : SQ f' r o n tk s :=
  h.of (fun j hj => e _ (by have := h.cs.2.1.big; omega)) (fun b hb _ => e b (by omega))
/-- one row of one, in both -/
theorem IN.row {f : Nat → Nat → Int32} {r : Nat → Nat → Option Nat} {n tc tz : Nat} {tk : Nat → Nat → List (Nat × Int32)} {s : Nat → Nat → Int32} (h : IN f r n tc tz tk s) {c j : Nat} (hc : (c = 0 ∧ j = 1) ∨ (c = 1 ∧ j = 2) ∨ (c = 2 ∧ j = 3) ∨ (c = 3 ∧ j = 6)) (p : Nat) (v : Int32) (hw : w_wf n (e_up s j p v)) : IN (e_up (e_up f (52 + j) p v) 79 (4 * p + c) v) r n tc tz tk (e_up s j p v) := by
  refine ⟨(h.1.up (by omega) p v).lo (fun b hb => e_up_row (by omega)), MW.up (h.2.1.hi (fun b hb => e_up_row (by omega))) hc p v hw, ?_⟩
  obtain ⟨t, t1, t2⟩ := h.2.2.2.2.2.1
  obtain ⟨d, d1, d2⟩ := h.2.2.2.2.2.2.1
  exact h.2.2.of ((FR.up (by omega)).trans (FR.up (by omega))) ⟨t, t1, by rw [e_up_row (by omega)]; exact t2⟩ ⟨d, d1, by rw [e_up_row (by omega)]; exact d2⟩ (fun q _ => ⟨by rw [e_up_row (by omega)], by rw [e_up_row (by omega)]⟩)
theorem ok_day : OK_day SS Inv_ := by
  intro g hI
  obtain ⟨f, r⟩ := g
  obtain ⟨n, tc, tz, tk, s, h⟩ := hI
  have h : IN f r n tc tz tk s := h
  have hG : GG (f, r) := h.1.cs.1
  have h10 := rf10 hG
  have b52 : e_ob SS 7 52 = true := obS (Or.inl rfl)
  obtain ⟨d, d1, d2⟩ := h.2.2.2.2.2.2.1
  have k999 : (999 : Int32) = nI 999 := by decide +kernel
  by_cases q : d < 999
  · obtain ⟨f1, a1, a2, a3⟩ := sq_day h.1
    have e1 : ∀ b, 76 ≤ b → f1 b = f b := fun b hb => a2 b (by unfold NS; omega) (by omega) (by omega) (by omega)
    have m1 := h.2.1.hi e1
    obtain ⟨f2, b1, b2, b3⟩ := m_day m1
    have e74 : f1 76 4 = nI d := by rw [e1 76 (by omega)]; exact h.2.1.2.1.1.1.trans d2
    refine do_ (w_day tk n s).1 (f1 := f1) (f2 := f2) (n := n) (tc := tc) (tz := tz) (tk := tk) (s := (w_day tk n s).2) ?_ ?_ ⟨a3.lo (fun b hb => b2.1 b (by omega) (by omega) (by omega) (by omega)), b3, ?_⟩
    · unfold f_X10_day
      rw [if_pos ob10]
      simp only [h10, Option.bind_some, gI_ok b52, h.1.d, d2, a1]
      rw [if_pos (by rw [k999]; exact nI_lt q (by omega))]
    · unfold f_X11_day
      rw [if_pos ob11]
      simp only [gI_ok ob11, Option.bind_some, e74, b1]
      rw [if_neg (by rw [k999]; exact fun z => by have := nI_inj (by omega) (by omega) z; omega)]
    · obtain ⟨t, t1, t2⟩ := h.2.2.2.2.2.1
      have fr1 : FR f f1 := ⟨fun b h1 h2 => a2 b h1 (by omega) (by omega) (by omega), fun j _ => by rw [e1 76 (by omega)]⟩
      have fr2 : FR f1 f2 := ⟨fun b h1 h2 => b2.1 b (by omega) (by omega) (by omega) (by omega), fun j _ => b2.2 j (by omega)⟩
      exact h.2.2.of (fr1.trans fr2) ⟨t, t1, (w_day_8 tk n s).trans t2⟩ ⟨d + 1, by omega, by rw [w_day_7, d2, nI_1]⟩ (fun p _ => ⟨by rw [w_day_row tk n s (by omega) (by omega) (by omega)], by rw [w_day_row tk n s (by omega) (by omega) (by omega)]⟩)
  · have e : d = 999 := by omega
    subst e
    refine ask0 h (-3) ?_ ?_
    · unfold f_X10_day
      rw [if_pos ob10]
      simp only [h10, Option.bind_some, gI_ok b52, h.1.d, d2]
      rw [if_neg (by rw [k999]; exact nI_nlt (by omega) (by omega))]
    · have e4 : f 76 4 = nI 999 := h.2.1.2.1.1.1.trans d2
      unfold f_X11_day
      rw [if_pos ob11]
      simp only [gI_ok ob11, Option.bind_some, e4]
      rw [if_pos k999.symm]
theorem ok_callIn : OK_callIn SS Inv_ := by
  intro g a1 hI
  obtain ⟨f, r⟩ := g
  obtain ⟨n, tc, tz, tk, s, h⟩ := hI
  have h : IN f r n tc tz tk s := h
  have hG : GG (f, r) := h.1.cs.1
  have h10 := rf10 hG
  have hS : IsS 52 := Or.inl rfl
  have h7 := rfS hG hS
  have A := arS hS
  rcases s_has_or h.1.le a1 with z | ⟨p, hp, rfl, z⟩
  · refine ask0 h (-5) ?_ ?_
    · unfold f_X10_callIn
      rw [if_pos ob10]
      simp only [h10, Option.bind_some, sq_has h.1, z, if_true]
    · unfold f_X11_callIn
      rw [if_pos ob11]
      simp only [mw_one h.2.1, Option.bind_some, z, if_true]
  · have hp6 : p < 6 := h.2.1.lt hp
    have c3 : f 55 p = s 3 p := h.1.row (j := 3) (by omega) (by omega) p hp
    have c6 : f 58 p = s 6 p := h.1.row (j := 6) (by omega) (by omega) p hp
    have d6 : m_K (f, r) p = s 6 p := h.2.1.row (j := 6) (by omega) (by omega) p hp
    have w6 := (h.2.1.2.2.1.1 p hp).2.1
    rcases w6 with y | y
    · have m1 : MW (e_up f 55 p 0) r n tk s := h.2.1.hi (fun b hb => e_up_row (by omega))
      have hG1 : GG (e_up f 55 p 0, r) := hG
      have h11 := rf11 hG1
      have d3 : m_N (e_up f 55 p 0, r) p = s 3 p := m1.row (j := 3) (by omega) (by omega) p hp
      have d6 : m_K (e_up f 55 p 0, r) p = s 6 p := m1.row (j := 6) (by omega) (by omega) p hp
      refine do_ (s 3 p) (f1 := e_up f 55 p 0) (f2 := e_up (e_up f 55 p 0) 79 (4 * p + 2) 0) ?_ ?_ (h.row (c := 2) (j := 3) (by omega) p 0 (h.2.1.2.2.1.up3 p (l := 0) (by omega)))
      · unfold f_X10_callIn
        rw [if_pos ob10]
        simp only [h10, Option.bind_some, sq_has h.1, z, z10, if_false, h7, aI_ok A.2.2.2.2.2.1 hp6 (by omega : 6 < 2 ^ 31), c6, y, if_true, aI_ok A.2.2.1 hp6 (by omega : 6 < 2 ^ 31), c3, aS_ok A.2.2.1 hp6 (by omega : 6 < 2 ^ 31)]
      · unfold f_X11_callIn
        rw [if_pos ob11]
        have x0 : ((0 : Int32) = 1) = False := by decide
        simp only [mw_one m1, Option.bind_some, z, z10, if_false, h11, m_aK (e_up f 55 p 0, r) hp6, d6, y, x0, m_aN (e_up f 55 p 0, r) hp6, d3, m_st (f := e_up f 55 p 0) (r := r) hp6 (show 2 < 4 by omega) (show (2 : Int32) = nI 2 by decide +kernel)]
    · have h11 := rf11 hG
      refine ask0 h (-3) ?_ ?_
      · unfold f_X10_callIn
        rw [if_pos ob10]
        simp only [h10, Option.bind_some, sq_has h.1, z, z10, if_false, h7, aI_ok A.2.2.2.2.2.1 hp6 (by omega : 6 < 2 ^ 31), c6, y]
      · unfold f_X11_callIn
        rw [if_pos ob11]
        simp only [mw_one h.2.1, Option.bind_some, z, z10, if_false, h11, m_aK (f, r) hp6, d6, y, if_true]
/-- a window of the other side -/
theorem s_opp_ex {a : Nat} (ha : a < 20) {w : Int32} (h : s_opp (nI a) w = 1) : ∃ b, b < 20 ∧ w = nI b ∧ a / 10 ≠ b / 10 := by
  unfold s_opp at h
  split at h
  · exact absurd h (by decide)
  next q =>
    have q0 : ¬ w < 0 := fun z => q (Or.inr (Or.inr (Or.inl z)))
    have q1 : ¬ (20 : Int32) ≤ w := fun z => q (Or.inr (Or.inr (Or.inr (Or.inl z))))
    have q2 : ¬ nI a / 10 = w / 10 := fun z => q (Or.inr (Or.inr (Or.inr (Or.inr z))))
    obtain ⟨b, hb, e⟩ := nI_ex (x := w) (n := 20) (by omega) q0 (by rcases Int32.lt_or_le w (nI 20) with z | z; exact z; exact absurd z q1)
    refine ⟨b, hb, e, fun z => q2 ?_⟩
    rw [e, k_10, nI_div (by omega) (by omega), nI_div (by omega) (by omega), z]
theorem wf_opp {n : Nat} {s : Nat → Nat → Int32} (h : w_wf n s) {p : Nat} (hp : p < n) {w : Int32} (ho : s_opp (s 1 p) w = 1) : w_wf n (e_up s 2 p w) := by
  obtain ⟨a, b0, h1, h2, h3, h4, h5⟩ := (h.1 p hp).1
  rw [h3] at ho
  obtain ⟨b, hb, rfl, hne⟩ := s_opp_ex h1 ho
  exact wf_look h hb (fun _ a' ha' e => by
    have := nI_inj (by omega) (by omega) (h3.symm.trans e)
    omega)
theorem wf_mayBe {n : Nat} {s : Nat → Nat → Int32} (h : w_wf n s) (h6 : n ≤ 6) {p : Nat} (hp : p < n) {w : Int32} (ho : ¬ s_mayBe (s 1) n p w = 0) : w_wf n (e_up s 1 p w) := by
  obtain ⟨⟨a, b0, h1, h2, h3, h4, h5⟩, k2⟩ := h.1 p hp
  unfold s_mayBe at ho
  split at ho
  · exact absurd rfl ho
  next q =>
    have q0 : ¬ w < 0 := fun z => q (Or.inl z)
    have q1 : ¬ (20 : Int32) ≤ w := fun z => q (Or.inr (Or.inl z))
    have q2 : w / 10 = s 1 p / 10 := by
      by_cases z : w / 10 = s 1 p / 10
      · exact z
      · exact absurd (Or.inr (Or.inr z)) q
    obtain ⟨b, hb, e⟩ := nI_ex (x := w) (n := 20) (by omega) q0 (by rcases Int32.lt_or_le w (nI 20) with z | z; exact z; exact absurd z q1)
    subst e
    rw [h3, k_10, nI_div (by omega) (by omega), nI_div (by omega) (by omega)] at q2
    have q2 := nI_inj (by omega) (by omega) q2
    split at ho
    next y =>
      have free : ∀ j, j < n → j ≠ p → s 1 j ≠ nI b := by
        intro j hj hne z
        rcases s_who_or (s 1) n (nI b) with ⟨y1, y2⟩ | ⟨i, y1, y2, y3, y4⟩
        · exact y2 j hj z
        · rcases y with y | y
          · exact nI_ne_m1 (j := i) (by omega) (y2.symm.trans y)
          · have : i = p := nI_inj (by omega) (by omega) (y2.symm.trans y)
            have := h.2 j i hj y1 (z.trans y3.symm)
            omega
      refine ⟨fun j hj => ?_, fun j i hj hi e => ?_⟩
      · obtain ⟨⟨a', b', g1, g2, g3, g4, g5⟩, k3⟩ := h.1 j hj
        refine ⟨?_, k3⟩
        by_cases z : j = p
        · subst z
          have := nI_inj (by omega) (by omega) (g3.symm.trans h3)
          exact ⟨b, b', hb, g2, by rw [e_up_eq], g4, by omega⟩
        · exact ⟨a', b', g1, g2, by rw [e_up_ne (Or.inr z)]; exact g3, g4, g5⟩
      · by_cases z1 : j = p
        · by_cases z2 : i = p
          · omega
          · subst z1
            rw [e_up_eq, e_up_ne (Or.inr z2)] at e
            exact absurd e.symm (free i hi z2)
        · by_cases z2 : i = p
          · subst z2
            rw [e_up_eq, e_up_ne (Or.inr z1)] at e
            exact absurd e (free j hj z1)
          · rw [e_up_ne (Or.inr z1), e_up_ne (Or.inr z2)] at e
            exact h.2 j i hj hi e
    next y => exact absurd rfl ho
theorem sq_looksAt {f : Nat → Nat → Int32} {r : Nat → Nat → Option Nat} {n : Nat} {tk : Nat → Nat → List (Nat × Int32)} {s : Nat → Nat → Int32} (h : SQ f r 52 n tk s) {p : Nat} (hp : p < n) (w : Int32) : f_X10_looksAt SS 0 (nI p) w (f, r) = if s_opp (s 1 p) w = 0 then some (-7, (f, r)) else some (s 2 p, (e_up f 54 p w, r)) := by
  have hG : GG (f, r) := h.cs.1
  have h10 := rf10 hG
  have hS : IsS 52 := Or.inl rfl
  have h7 := rfS hG hS
  have A := arS hS
  have hp6 : p < 6 := Nat.lt_of_lt_of_le hp h.le
  have c2 : f 54 p = s 2 p := h.row (j := 2) (by omega) (by omega) p hp
  unfold f_X10_looksAt
  rw [if_pos ob10]
  simp only [h10, Option.bind_some, sq_mayLook h hp, h7, aI_ok A.2.1 hp6 (by omega : 6 < 2 ^ 31), c2, aS_ok A.2.1 hp6 (by omega : 6 < 2 ^ 31)]
theorem ok_crane : OK_crane SS Inv_ := by
  intro g a1 a2 hI
  obtain ⟨f, r⟩ := g
  obtain ⟨n, tc, tz, tk, s, h⟩ := hI
  have h : IN f r n tc tz tk s := h
  have hG : GG (f, r) := h.1.cs.1
  have h10 := rf10 hG
  rcases s_has_or h.1.le a1 with z | ⟨p, hp, rfl, z⟩
  · refine ask0 h (-5) ?_ ?_
    · unfold f_X10_crane
      rw [if_pos ob10]
      simp only [h10, Option.bind_some, sq_has h.1, z, if_true]
    · unfold f_X11_crane
      rw [if_pos ob11]
      simp only [mw_one h.2.1, Option.bind_some, z, if_true]
  · have hp6 : p < 6 := h.2.1.lt hp
    rcases s_opp01 (s 1 p) a2 with y | y
    · have h11 := rf11 hG
      have d1 : m_W (f, r) p = s 1 p := h.2.1.row (j := 1) (by omega) (by omega) p hp
      refine ask0 h (-7) ?_ ?_
      · unfold f_X10_crane
        rw [if_pos ob10]
        simp only [h10, Option.bind_some, sq_has h.1, z, z10, if_false, sq_looksAt h.1 hp, y, if_true]
      · unfold f_X11_crane
        rw [if_pos ob11]
        simp only [mw_one h.2.1, Option.bind_some, z, z10, if_false, h11, m_aW (f, r) hp6, d1, m_acr, y, if_true]
    · have m1 : MW (e_up f 54 p a2) r n tk s := h.2.1.hi (fun b hb => e_up_row (by omega))
      have hG1 : GG (e_up f 54 p a2, r) := hG
      have h11 := rf11 hG1
      have d1 : m_W (e_up f 54 p a2, r) p = s 1 p := m1.row (j := 1) (by omega) (by omega) p hp
      have d2 : m_L (e_up f 54 p a2, r) p = s 2 p := m1.row (j := 2) (by omega) (by omega) p hp
      refine do_ (s 2 p) (f1 := e_up f 54 p a2) (f2 := e_up (e_up f 54 p a2) 79 (4 * p + 1) a2) ?_ ?_ (h.row (c := 1) (j := 2) (by omega) p a2 (wf_opp h.2.1.2.2.1 hp y))
      · unfold f_X10_crane
        rw [if_pos ob10]
        simp only [h10, Option.bind_some, sq_has h.1, z, z10, if_false, sq_looksAt h.1 hp, y]
      · unfold f_X11_crane
        rw [if_pos ob11]
        simp only [mw_one m1, Option.bind_some, z, z10, if_false, h11, m_aW (e_up f 54 p a2, r) hp6, d1, m_acr, y, m_aL (e_up f 54 p a2, r) hp6, d2, m_st (f := e_up f 54 p a2) (r := r) hp6 (show 1 < 4 by omega) (show (1 : Int32) = nI 1 by decide +kernel)]
theorem ok_put : OK_put SS Inv_ := by
  intro g a1 a2 a3 hI
  obtain ⟨f, r⟩ := g
  obtain ⟨n, tc, tz, tk, s, h⟩ := hI
  have h : IN f r n tc tz tk s := h
  have hG : GG (f, r) := h.1.cs.1
  have h10 := rf10 hG
  have h11 := rf11 hG
  have hS : IsS 52 := Or.inl rfl
  have h7 := rfS hG hS
  have A := arS hS
  rcases s_has_or h.1.le a1 with z | ⟨p, hp, rfl, z⟩
  · refine ask0 h (-5) ?_ ?_
    · unfold f_X10_put
      rw [if_pos ob10]
      simp only [h10, Option.bind_some, sq_has h.1, z, if_true]
    · unfold f_X11_put
      rw [if_pos ob11]
      simp only [mw_one h.2.1, Option.bind_some, z, if_true]
  · have hp6 : p < 6 := h.2.1.lt hp
    have x10 : ((1 : Int32) = 0) = False := by decide
    by_cases n0 : a2 = 0
    · subst n0
      by_cases y : s_mayBe (s 1) n p a3 = 0
      · refine ask0 h (-7) ?_ ?_
        · unfold f_X10_put
          rw [if_pos ob10]
          simp only [h10, Option.bind_some, sq_has h.1, z, z10, if_false, if_true, sq_mayBe h.1 hp, y]
        · unfold f_X11_put
          rw [if_pos ob11]
          simp only [mw_one h.2.1, Option.bind_some, z, z10, if_false, if_true, mw_mayBe h.2.1 hp, y, J_X11_put_64]
      · have m1 : MW (e_up f 53 p a3) r n tk s := h.2.1.hi (fun b hb => e_up_row (by omega))
        have hG1 : GG (e_up f 53 p a3, r) := hG
        have h11 := rf11 hG1
        have c1 : f 53 p = s 1 p := h.1.row (j := 1) (by omega) (by omega) p hp
        have d1 : m_W (e_up f 53 p a3, r) p = s 1 p := m1.row (j := 1) (by omega) (by omega) p hp
        refine do_ (s 1 p) (f1 := e_up f 53 p a3) (f2 := e_up (e_up f 53 p a3) 79 (4 * p + 0) a3) ?_ ?_ (h.row (c := 0) (j := 1) (by omega) p a3 (wf_mayBe h.2.1.2.2.1 h.1.le hp y))
        · unfold f_X10_put
          rw [if_pos ob10]
          simp only [h10, Option.bind_some, sq_has h.1, z, z10, if_false, if_true, sq_mayBe h.1 hp, y, h7, aI_ok A.1 hp6 (by omega : 6 < 2 ^ 31), c1, aS_ok A.1 hp6 (by omega : 6 < 2 ^ 31)]
        · unfold f_X11_put
          rw [if_pos ob11]
          simp only [mw_one m1, Option.bind_some, z, z10, if_false, if_true, mw_mayBe m1 hp, y, J_X11_put_64, h11, Int32.add_zero, m_aW (e_up f 53 p a3, r) hp6, d1, m_stW (f := e_up f 53 p a3) (r := r) hp6]
    by_cases n1 : a2 = 1
    · subst n1
      rcases s_opp01 (s 1 p) a3 with y | y
      · have d1 : m_W (f, r) p = s 1 p := h.2.1.row (j := 1) (by omega) (by omega) p hp
        refine ask0 h (-7) ?_ ?_
        · unfold f_X10_put
          rw [if_pos ob10]
          simp only [h10, Option.bind_some, sq_has h.1, z, z10, if_false, if_true, sq_looksAt h.1 hp, y]
        · unfold f_X11_put
          rw [if_pos ob11]
          simp only [mw_one h.2.1, Option.bind_some, z, z10, if_false, if_true, h11, m_aW (f, r) hp6, d1, m_acr, y, J_X11_put_64]
      · have m1 : MW (e_up f 54 p a3) r n tk s := h.2.1.hi (fun b hb => e_up_row (by omega))
        have hG1 : GG (e_up f 54 p a3, r) := hG
        have h11 := rf11 hG1
        have d1 : m_W (e_up f 54 p a3, r) p = s 1 p := m1.row (j := 1) (by omega) (by omega) p hp
        have d2 : m_L (e_up f 54 p a3, r) p = s 2 p := m1.row (j := 2) (by omega) (by omega) p hp
        refine do_ (s 2 p) (f1 := e_up f 54 p a3) (f2 := e_up (e_up f 54 p a3) 79 (4 * p + 1) a3) ?_ ?_ (h.row (c := 1) (j := 2) (by omega) p a3 (wf_opp h.2.1.2.2.1 hp y))
        · unfold f_X10_put
          rw [if_pos ob10]
          simp only [h10, Option.bind_some, sq_has h.1, z, z10, if_false, if_true, sq_looksAt h.1 hp, y]
        · unfold f_X11_put
          rw [if_pos ob11]
          simp only [mw_one m1, Option.bind_some, z, z10, if_false, if_true, h11, m_aW (e_up f 54 p a3, r) hp6, d1, m_acr, y, J_X11_put_64, m_aL (e_up f 54 p a3, r) hp6, d2, m_st (f := e_up f 54 p a3) (r := r) hp6 (show 1 < 4 by omega) (show (1 : Int32) = nI 1 by decide +kernel)]
    by_cases n2 : a2 = 2
    · subst n2
      have x20 : ((2 : Int32) = 0) = False := by decide
      have x21 : ((2 : Int32) = 1) = False := by decide
      rcases arg3 a3 99 100 99 (by decide +kernel) (by decide +kernel) (by omega) with ⟨q1, q2⟩ | ⟨q1, q2, q3, q4, q5, q6⟩ | ⟨l, hl, e, q1, q2, q3, q4, q5, q6⟩
      · refine ask0 h (-7) ?_ ?_
        · unfold f_X10_put
          rw [if_pos ob10]
          simp only [h10, Option.bind_some, sq_has h.1, z, z10, x20, x21, if_false, if_true, q1]
        · unfold f_X11_put
          rw [if_pos ob11]
          simp only [mw_one h.2.1, Option.bind_some, z, z10, x20, x21, if_false, if_true, m_in, q2, J_X11_put_63, J_X11_put_64]
      · refine ask0 h (-7) ?_ ?_
        · unfold f_X10_put
          rw [if_pos ob10]
          simp only [h10, Option.bind_some, sq_has h.1, z, z10, x20, x21, if_false, if_true, q1, q4]
        · unfold f_X11_put
          rw [if_pos ob11]
          simp only [mw_one h.2.1, Option.bind_some, z, z10, x20, x21, if_false, if_true, m_in, q6, J_X11_put_63, J_X11_put_64]
      · have m1 : MW (e_up f 55 p a3) r n tk s := h.2.1.hi (fun b hb => e_up_row (by omega))
        have hG1 : GG (e_up f 55 p a3, r) := hG
        have h11 := rf11 hG1
        have c3 : f 55 p = s 3 p := h.1.row (j := 3) (by omega) (by omega) p hp
        have d3 : m_N (e_up f 55 p a3, r) p = s 3 p := m1.row (j := 3) (by omega) (by omega) p hp
        refine do_ (s 3 p) (f1 := e_up f 55 p a3) (f2 := e_up (e_up f 55 p a3) 79 (4 * p + 2) a3) ?_ ?_ (h.row (c := 2) (j := 3) (by omega) p a3 (by rw [e]; exact h.2.1.2.2.1.up3 p (by omega)))
        · unfold f_X10_put
          rw [if_pos ob10]
          simp only [h10, Option.bind_some, sq_has h.1, z, z10, x20, x21, if_false, if_true, q1, q4, h7, aI_ok A.2.2.1 hp6 (by omega : 6 < 2 ^ 31), c3, aS_ok A.2.2.1 hp6 (by omega : 6 < 2 ^ 31)]
        · unfold f_X11_put
          rw [if_pos ob11]
          simp only [mw_one m1, Option.bind_some, z, z10, x20, x21, if_false, if_true, m_in, q6, J_X11_put_63, J_X11_put_64, h11, m_aN (e_up f 55 p a3, r) hp6, d3, m_st (f := e_up f 55 p a3) (r := r) hp6 (show 2 < 4 by omega) (show (2 : Int32) = nI 2 by decide +kernel)]
    · refine ask0 h (-7) ?_ ?_
      · unfold f_X10_put
        rw [if_pos ob10]
        simp only [h10, Option.bind_some, sq_has h.1, z, z10, if_false]
        rw [if_neg n0, if_neg n1, if_neg n2]
      · unfold f_X11_put
        rw [if_pos ob11]
        simp only [mw_one h.2.1, Option.bind_some, z, z10, if_false]
        rw [if_neg n0, if_neg n1, if_neg n2]
        simp only [J_X11_put_63, J_X11_put_64, if_true]
/-! chain -/
def c_ch (nx : Nat → Option Nat) : Nat → Nat → Option Nat → Nat
  | 0, b, _ => b
  | _ + 1, b, none => b
  | k + 1, b, some j => c_ch nx k (b ||| 2 ^ j) (nx j)
def c_has (b j : Nat) : Prop := b / 2 ^ j % 2 = 1
theorem c_has_or : ∀ b, b < 64 → ∀ j, j < 6 → ∀ i, i < 6 → ((b ||| 2 ^ j) / 2 ^ i % 2 = 1 ↔ (i = j ∨ b / 2 ^ i % 2 = 1)) := by decide +kernel
theorem c_or_has : ∀ b, b < 64 → ∀ j, j < 6 → b / 2 ^ j % 2 = 1 → b ||| 2 ^ j = b := by decide +kernel
theorem c_or_lt : ∀ b, b < 64 → ∀ j, j < 6 → b ||| 2 ^ j < 64 := by decide +kernel
theorem c_or_one : ∀ b, b < 64 → ∀ j, j < 6 → ¬ b / 2 ^ j % 2 = 1 → c_ones (b ||| 2 ^ j) = c_ones b + 1 := by decide +kernel
theorem c_full : ∀ b, b < 64 → c_ones b = 6 → ∀ j, j < 6 → b / 2 ^ j % 2 = 1 := by decide +kernel
theorem c_bit : ∀ b, b < 64 → ∀ j, j < 6 → (nI b >>> (nI j &&& 31)) &&& (1 : Int32) = nI (b / 2 ^ j % 2) := by decide +kernel
/-- a set that is closed stays as it is -/
theorem c_stay {nx : Nat → Option Nat} {n b : Nat} (h6 : n ≤ 6) (hb : b < 64) (hn : ∀ j i, j < n → nx j = some i → i < n) (hc : ∀ j, j < n → c_has b j → ∀ i, nx j = some i → c_has b i) : ∀ k (c : Option Nat), (∀ j, c = some j → j < n ∧ c_has b j) → c_ch nx k b c = b := by
  intro k
  induction k with
  | zero => intro c _; cases c <;> rfl
  | succ k ih =>
    intro c h
    cases c with
    | none => rfl
    | some j =>
      obtain ⟨h1, h2⟩ := h j rfl
      show c_ch nx k (b ||| 2 ^ j) (nx j) = b
      rw [c_or_has b hb j (by omega) h2]
      exact ih (nx j) (fun i e => ⟨hn j i h1 e, hc j h1 h2 i e⟩)
/-- who is at one's look -/
def c_nx (s : Nat → Nat → Int32) (n p : Nat) : Option Nat := if s_who (s 1) n (s 2 p) = -1 then none else some (s_who (s 1) n (s 2 p)).toNatClampNeg
theorem c_nx_or {s : Nat → Nat → Int32} {n : Nat} (h6 : n ≤ 6) (p : Nat) : (s_who (s 1) n (s 2 p) = -1 ∧ c_nx s n p = none) ∨ ∃ j, j < n ∧ s_who (s 1) n (s 2 p) = nI j ∧ c_nx s n p = some j := by
  unfold c_nx
  rcases s_who_or (s 1) n (s 2 p) with ⟨h1, -⟩ | ⟨j, h1, h2, -⟩
  · exact Or.inl ⟨h1, if_pos h1⟩
  · refine Or.inr ⟨j, h1, h2, ?_⟩
    rw [h2, if_neg (nI_ne_m1 (by omega)), nI_clamp (by omega)]
def c_cur : Option Nat → Int32
  | none => -1
  | some j => nI j
theorem sq_chain {f : Nat → Nat → Int32} {r : Nat → Nat → Option Nat} {n : Nat} {tk : Nat → Nat → List (Nat × Int32)} {s : Nat → Nat → Int32} (h : SQ f r 52 n tk s) : ∀ k i b (c : Option Nat) m, i + k = 6 → k < m → b < 64 → (∀ j, c = some j → j < n) → L_X10_chain_21 m SS 0 (nI b) (c_cur c) (nI i) (f, r) = some (nI (c_ch (c_nx s n) k b c), (f, r)) := by
  have hG : GG (f, r) := h.cs.1
  have h10 := rf10 hG
  have hS : IsS 52 := Or.inl rfl
  have h7 := rfS hG hS
  have A := arS hS
  have k6 : (6 : Int32) = nI 6 := by decide +kernel
  intro k
  induction k with
  | zero =>
    intro i b c m hi hm hb hc
    obtain ⟨m, rfl⟩ : ∃ q, m = q + 1 := ⟨m - 1, by omega⟩
    have : i = 6 := by omega
    subst this
    rw [L_X10_chain_21, k6, if_pos (nI_le (Nat.le_refl 6) (by omega))]
    cases c <;> rfl
  | succ k ih =>
    intro i b c m hi hm hb hc
    obtain ⟨m, rfl⟩ : ∃ q, m = q + 1 := ⟨m - 1, by omega⟩
    rw [L_X10_chain_21, k6, if_neg (nI_ge (by omega) (by omega))]
    simp only [h10, Option.bind_some, sq_has h]
    cases c with
    | none =>
      have : s_has n (c_cur none) = 0 := by
        unfold s_has c_cur
        rw [if_pos (by decide)]
      rw [this, if_pos rfl]
      rfl
    | some j =>
      have hj := hc j rfl
      have hj6 : j < 6 := Nat.lt_of_lt_of_le hj h.le
      have c2 : f 54 j = s 2 j := h.row (j := 2) (by omega) (by omega) j hj
      show (if s_has n (nI j) = 0 then _ else _) = _
      rw [s_has_k h.le hj, if_neg (by decide)]
      simp only [h7, Option.bind_some, c_cur, aI_ok A.2.1 hj6 (by omega : 6 < 2 ^ 31), c2, sq_who h, bit_n j hj6, or_n, nI_1]
      have e : s_who (s 1) n (s 2 j) = c_cur (c_nx s n j) := by
        rcases c_nx_or h.le j with ⟨q1, q2⟩ | ⟨i', q0, q1, q2⟩
        · rw [q1, q2]; rfl
        · rw [q1, q2]; rfl
      rw [e]
      exact ih (i + 1) (b ||| 2 ^ j) (c_nx s n j) m (by omega) (by omega) (c_or_lt b hb j hj6) (fun i' e' => by
        rcases c_nx_or h.le j with ⟨q1, q2⟩ | ⟨i2, q0, q1, q2⟩
        · rw [q2] at e'; cases e'
        · rw [q2] at e'; cases e'; exact q0)
theorem mw_chain {f : Nat → Nat → Int32} {r : Nat → Nat → Option Nat} {n : Nat} {tk : Nat → Nat → List (Nat × Int32)} {s : Nat → Nat → Int32} (h : MW f r n tk s) : ∀ k b (c : Option Nat) m, c_ones b + k = 6 → k + 1 < m → b < 64 → (∀ j, c = some j → j < n) → (∀ j, j < n → c_has b j → ∀ i, c_nx s n j = some i → c_has b i ∨ c = some i) → L_X11_chain_15 m SS 76 (nI b) (c_cur c) (f, r) = some (nI (c_ch (c_nx s n) k b c), (f, r)) := by
  have hG : GG (f, r) := h.1.1
  have h11 := rf11 hG
  have h6 := h.1.2.2
  have hn : ∀ j i, j < n → c_nx s n j = some i → i < n := by
    intro j i hj e
    rcases c_nx_or h6 j with ⟨q1, q2⟩ | ⟨i2, q0, q1, q2⟩
    · rw [q2] at e; cases e
    · rw [q2] at e; cases e; exact q0
  intro k
  induction k with
  | zero =>
    intro b c m hi hm hb hc hcl
    obtain ⟨m, rfl⟩ : ∃ q, m = q + 1 := ⟨m - 1, by omega⟩
    rw [L_X11_chain_15]
    cases c with
    | none => rfl
    | some j =>
      have hj := hc j rfl
      have hj6 : j < 6 := by omega
      show (if nI j = -1 then _ else if (nI b >>> (nI j &&& 31)) &&& (1 : Int32) = 0 then _ else _) = _
      rw [if_neg (nI_ne_m1 (by omega)), c_bit b hb j hj6, c_full b hb (by omega) j hj6, if_neg (by decide)]
      rfl
  | succ k ih =>
    intro b c m hi hm hb hc hcl
    obtain ⟨m, rfl⟩ : ∃ q, m = q + 1 := ⟨m - 1, by omega⟩
    rw [L_X11_chain_15]
    cases c with
    | none => rfl
    | some j =>
      have hj := hc j rfl
      have hj6 : j < 6 := by omega
      have d2 : m_L (f, r) j = s 2 j := h.row (j := 2) (by omega) (by omega) j hj
      show (if nI j = -1 then _ else if (nI b >>> (nI j &&& 31)) &&& (1 : Int32) = 0 then _ else _) = _
      rw [if_neg (nI_ne_m1 (by omega)), c_bit b hb j hj6]
      by_cases q : b / 2 ^ j % 2 = 1
      · rw [q, if_neg (by decide)]
        show _ = some (nI (c_ch (c_nx s n) (k + 1) b (some j)), (f, r))
        rw [c_stay h6 hb hn (fun i hi' hb' i' e => by
          rcases hcl i hi' hb' i' e with y | y
          · exact y
          · cases y; exact q) (k + 1) (some j) (fun i e => by cases e; exact ⟨hj, q⟩)]
      · have q0 : b / 2 ^ j % 2 = 0 := by omega
        rw [q0, if_pos nI_0]
        have h11a := h11.2.2.1
        have ef := m_aL (f, r) hj6
        have e0 : s_who (s 1) n (s 2 j) = c_cur (c_nx s n j) := by
          rcases c_nx_or h6 j with ⟨q1, q2⟩ | ⟨i', q0, q1, q2⟩
          · rw [q1, q2]; rfl
          · rw [q1, q2]; rfl
        simp only [h11a, Option.bind_some, c_cur, ef, d2, mw_who h, bit_n j hj6, or_n]
        rw [e0]
        exact ih (b ||| 2 ^ j) (c_nx s n j) m (by rw [c_or_one b hb j hj6 q]; omega) (by omega) (c_or_lt b hb j hj6) (fun i e => hn j i hj e) (fun i hi' hb' i' e => by
          rcases (c_has_or b hb j hj6 i (by omega)).mp hb' with y | y
          · subst y; exact Or.inr e
          · have hi2 := hn i i' hi' e
            rcases hcl i hi' y i' e with y | y
            · exact Or.inl ((c_has_or b hb j hj6 i' (by omega)).mpr (Or.inr y))
            · cases y; exact Or.inl ((c_has_or b hb j hj6 j hj6).mpr (Or.inl rfl)))
theorem ok_chain : OK_chain SS Inv_ := by
  intro g a1 hI
  obtain ⟨f, r⟩ := g
  obtain ⟨n, tc, tz, tk, s, h⟩ := hI
  have h : IN f r n tc tz tk s := h
  have hG : GG (f, r) := h.1.cs.1
  have h10 := rf10 hG
  rcases s_has_or h.1.le a1 with z | ⟨p, hp, rfl, z⟩
  · refine ask0 h (-5) ?_ ?_
    · unfold f_X10_chain
      rw [if_pos ob10]
      simp only [h10, Option.bind_some, sq_has h.1, z, if_true]
    · unfold f_X11_chain
      rw [if_pos ob11]
      simp only [mw_one h.2.1, Option.bind_some, z, if_true]
  · refine ask0 h (nI (c_ch (c_nx s n) 6 0 (some p))) ?_ ?_
    · unfold f_X10_chain
      rw [if_pos ob10, h10.2.2.1, Option.bind_some, sq_has h.1, Option.bind_some, z, if_neg (show ¬ (1 : Int32) = 0 by decide)]
      have := sq_chain h.1 6 0 0 (some p) 50000 (by omega) (by omega) (by omega) (fun j e => by cases e; exact hp)
      rw [nI_0] at this
      exact this
    · unfold f_X11_chain
      rw [if_pos ob11, mw_one h.2.1, Option.bind_some, z, if_neg (show ¬ (1 : Int32) = 0 by decide)]
      have := mw_chain h.2.1 6 0 (some p) 50000 (by decide) (by omega) (by omega) (fun j e => by cases e; exact hp) (fun j _ hb => by
        have hb : 0 / 2 ^ j % 2 = 1 := hb
        rw [Nat.zero_div] at hb
        omega)
      rw [nI_0] at this
      exact this
