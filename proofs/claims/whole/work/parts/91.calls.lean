/-! taken, person, peopleBy -/
theorem is_kind : ∀ k, k < 6 → e_is SS RX2 (46 + k) = some (if k = 1 ∨ k = 3 then 1 else 0) ∧ e_is SS RX8 (46 + k) = some (if k = 2 ∨ k = 4 then 1 else 0) ∧ e_is SS RX0 (46 + k) = some (if k = 3 then 1 else 0) ∧ e_is SS RX1 (46 + k) = some (if k = 4 then 1 else 0) ∧ e_is SS RX4 (46 + k) = some (if k = 5 then 1 else 0) := by decide +kernel
def c_under (k l : Nat) : Int32 := if l = 0 ∨ k = l ∨ (l = 1 ∧ k = 3) ∨ (l = 2 ∧ k = 4) then 1 else 0
theorem x10_under {k l : Nat} (hk : k < 6) (hl : l < 6) (g : e_G) : f_X10_isOfKind SS (46 + k) (nI l) g = some (c_under k l, g) := by
  obtain ⟨h1, h2, h3, h4, h5⟩ := is_kind k hk
  unfold f_X10_isOfKind
  rw [h1, h2, h3, h4, h5]
  have q : ∀ m, m < 6 → (nI l = nI m ↔ l = m) := fun m hm => nI_eq (by omega) (by omega)
  have k0 : (0 : Int32) = nI 0 := nI_0.symm
  have k1 : (1 : Int32) = nI 1 := by decide +kernel
  have k2 : (2 : Int32) = nI 2 := by decide +kernel
  have k3 : (3 : Int32) = nI 3 := by decide +kernel
  have k4 : (4 : Int32) = nI 4 := by decide +kernel
  have k5 : (5 : Int32) = nI 5 := by decide +kernel
  match l, hl with
  | 0, _ => rw [if_pos nI_0]; rfl
  | 1, _ =>
    rw [if_neg (show ¬ nI 1 = 0 by decide), if_pos k1.symm]
    match k, hk with
    | 0, _ => rfl
    | 1, _ => rfl
    | 2, _ => rfl
    | 3, _ => rfl
    | 4, _ => rfl
    | 5, _ => rfl
  | 2, _ =>
    rw [if_neg (show ¬ nI 2 = 0 by decide), if_neg (show ¬ nI 2 = 1 by decide), if_pos k2.symm]
    match k, hk with
    | 0, _ => rfl
    | 1, _ => rfl
    | 2, _ => rfl
    | 3, _ => rfl
    | 4, _ => rfl
    | 5, _ => rfl
  | 3, _ =>
    rw [if_neg (show ¬ nI 3 = 0 by decide), if_neg (show ¬ nI 3 = 1 by decide), if_neg (show ¬ nI 3 = 2 by decide), if_pos k3.symm]
    match k, hk with
    | 0, _ => rfl
    | 1, _ => rfl
    | 2, _ => rfl
    | 3, _ => rfl
    | 4, _ => rfl
    | 5, _ => rfl
  | 4, _ =>
    rw [if_neg (show ¬ nI 4 = 0 by decide), if_neg (show ¬ nI 4 = 1 by decide), if_neg (show ¬ nI 4 = 2 by decide), if_neg (show ¬ nI 4 = 3 by decide), if_pos k4.symm]
    match k, hk with
    | 0, _ => rfl
    | 1, _ => rfl
    | 2, _ => rfl
    | 3, _ => rfl
    | 4, _ => rfl
    | 5, _ => rfl
  | 5, _ =>
    rw [if_neg (show ¬ nI 5 = 0 by decide), if_neg (show ¬ nI 5 = 1 by decide), if_neg (show ¬ nI 5 = 2 by decide), if_neg (show ¬ nI 5 = 3 by decide), if_neg (show ¬ nI 5 = 4 by decide), if_pos k5.symm]
    match k, hk with
    | 0, _ => rfl
    | 1, _ => rfl
    | 2, _ => rfl
    | 3, _ => rfl
    | 4, _ => rfl
    | 5, _ => rfl
theorem x11_under {k l : Nat} (hk : k < 6) (hl : l < 6) (g : e_G) : f_X11_isUnder SS (nI k) (nI l) g = some (c_under k l, g) := by
  have q : ∀ k, k < 6 → ∀ l, l < 6 → (if nI l = (0 : Int32) then (1 : Int32) else if nI k = nI l then 1 else if nI l = 1 then (if nI k = 3 then 1 else if nI l = 2 then (if nI k = 4 then 1 else 0) else 0) else (if nI l = 2 then (if nI k = 4 then 1 else 0) else 0)) = c_under k l := by decide +kernel
  rw [← q k hk l hl]
  unfold f_X11_isUnder J_X11_isUnder_19 J_X11_isUnder_29
  (repeat' split) <;> first | rfl | contradiction
theorem ok_taken : OK_taken SS Inv_ := by
  intro g a1 a2 hI
  obtain ⟨f, r⟩ := g
  obtain ⟨n, tc, tz, tk, s, h⟩ := hI
  have h : IN f r n tc tz tk s := h
  have hG : GG (f, r) := h.1.cs.1
  have h10 := rf10 hG
  have h11 := rf11 hG
  have hS : IsS 52 := Or.inl rfl
  have h7 := rfS hG hS
  have A := arS hS
  have h6 := h.1.le
  have hw := h.2.1.2.2.1
  have no : ¬ (1 : Int32) = 0 := by decide
  have k6 : (6 : Int32) = nI 6 := by decide +kernel
  have e0 : f 76 0 = nI n := h.2.1.1.2.1
  rcases arg3 a2 6 7 6 (by decide +kernel) (by decide +kernel) (by omega) with ⟨q1, q2⟩ | ⟨q1, q2, q3, q4, q5, q6⟩ | ⟨k, hk, rfl, q1, q2, q3, q4, q5, q6⟩
  · exact ask0 h (-2) (by unfold f_X10_taken; rw [if_pos ob10, if_pos q1]) (by unfold f_X11_taken; rw [if_pos ob11, m_in, Option.bind_some, q2, if_pos rfl])
  · exact ask0 h (-2) (by unfold f_X10_taken; rw [if_pos ob10, if_neg q1, if_neg q4]) (by unfold f_X11_taken; rw [if_pos ob11, m_in, Option.bind_some, q6, if_pos rfl])
  · rcases arg3 a1 11 12 11 (by decide +kernel) (by decide +kernel) (by omega) with ⟨p1, p2⟩ | ⟨p1, p2, p3, p4, p5, p6⟩ | ⟨i, hi, rfl, p1, p2, p3, p4, p5, p6⟩
    · exact ask0 h (-12) (by unfold f_X10_taken; rw [if_pos ob10, if_neg q1, if_pos q4, if_pos p1]) (by unfold f_X11_taken; rw [if_pos ob11, m_in, Option.bind_some, q6, if_neg no, m_in, Option.bind_some, p2, if_pos rfl])
    · exact ask0 h (-12) (by unfold f_X10_taken; rw [if_pos ob10, if_neg q1, if_pos q4, if_neg p1, if_neg p5]) (by unfold f_X11_taken; rw [if_pos ob11, m_in, Option.bind_some, q6, if_neg no, m_in, Option.bind_some, p6, if_pos rfl])
    · have em : i_rem (nI i) 6 = nI (i % 6) := by rw [k6]; exact nI_rem (by omega) (by omega)
      have x1 : f_X10_taken SS 0 (nI i) (nI k) (f, r) = if s_has n (nI (i % 6)) = 0 then some (-11, (f, r)) else if (6 : Int32) ≤ nI i then J_X10_taken_56 SS 0 (nI k) (nI (i % 6)) 0 (f, r) else J_X10_taken_56 SS 0 (nI k) (nI (i % 6)) 1 (f, r) := by
        unfold f_X10_taken
        rw [if_pos ob10, if_neg q1, if_pos q4, if_neg p1, if_pos p5, h10.2.2.1, Option.bind_some, em, sq_has h.1, Option.bind_some]
      have x2 : f_X11_taken SS 76 (nI i) (nI k) (f, r) = if nI (i % 6) < nI n then (if nI i < 6 then (if (6 : Int32) ≤ nI k then some (-13, (f, r)) else (e_aI SS (f, r) 0 77 (nI i)).bind fun v9 => (f_X11_isUnder SS v9 (nI k) (f, r)).bind fun q12 => if q12.1 = 0 then some (-13, q12.2) else some (nI i, q12.2)) else (if nI k = 6 then (e_aI SS (f, r) 0 79 ((4 : Int32) * (nI i - 6) + 3)).bind fun v15 => some (v15, (f, r)) else some (-13, (f, r)))) else some (-11, (f, r)) := by
        unfold f_X11_taken
        rw [if_pos ob11, m_in, Option.bind_some, q6, if_neg no, m_in, Option.bind_some, p6, if_neg no, gI_ok ob11, Option.bind_some, show (f, r).1 76 0 = nI n from e0, em]
        simp only [h11, Option.bind_some]
      rcases s_has_or h6 (nI (i % 6)) with z | ⟨p, hp, ep, z⟩
      · refine ask0 h (-11) (by rw [x1, if_pos z]) ?_
        rw [x2, if_neg]
        intro y
        have := (nI_ltI (by omega) (by omega)).mp y
        rw [s_has_k h6 this] at z
        exact absurd z no
      · have ep := nI_inj (by omega) (by omega) ep
        rw [ep] at x1 x2 z
        have hp6 : p < 6 := by omega
        obtain ⟨kk, hkk, ek⟩ := (hw.1 p hp).2.2.1
        have c6 : f 58 p = s 6 p := h.1.row (j := 6) (by omega) (by omega) p hp
        have d6 : m_K (f, r) p = s 6 p := h.2.1.row (j := 6) (by omega) (by omega) p hp
        have c4 : f 56 p = nI kk := (h.1.row (j := 4) (by omega) (by omega) p hp).trans ek
        have d4 : f 77 p = nI kk := (h.2.1.row (j := 4) (by omega) (by omega) p hp).trans ek
        rw [z, if_neg no] at x1
        rw [if_pos (nI_lt hp (by omega))] at x2
        by_cases i6 : i < 6
        · have ei : i = p := by omega
          subst ei
          rw [if_neg (by rw [k6]; exact nI_ge i6 (by omega))] at x1
          rw [if_pos (by rw [k6]; exact nI_lt i6 (by omega))] at x2
          by_cases k6' : k = 6
          · subst k6'
            refine ask0 h (-13) ?_ ?_
            · rw [x1]
              unfold J_X10_taken_56
              rw [if_pos k6.symm, if_neg no]
            · rw [x2, if_pos (by rw [k6]; exact nI_le (Nat.le_refl 6) (by omega))]
          · have kn : ¬ nI k = 6 := fun y => k6' (nI_inj (by omega) (by omega) (y.trans k6))
            have rA : J_X10_taken_56 SS 0 (nI k) (nI i) 1 (f, r) = if c_under kk k = 0 then some (-13, (f, r)) else some (nI i, (f, r)) := by
              unfold J_X10_taken_56
              rw [if_neg kn, if_neg no, h10.2.2.1, Option.bind_some, cs_kind h.1.cs hp6 hkk c4, Option.bind_some, x10_under hkk (by omega), Option.bind_some]
            rw [rA] at x1
            rw [if_neg (by rw [k6]; exact nI_ge (by omega) (by omega)), aI_ok arM.1 hp6 (by omega), Option.bind_some, show (f, r).1 77 i = nI kk from d4, x11_under hkk (by omega), Option.bind_some] at x2
            by_cases y : c_under kk k = 0
            · exact ask0 h (-13) (by rw [x1, if_pos y]) (by rw [x2, if_pos y])
            · exact ask0 h (nI i) (by rw [x1, if_neg y]) (by rw [x2, if_neg y])
        · rw [if_pos (by rw [k6]; exact nI_le (by omega) (by omega))] at x1
          rw [if_neg (by rw [k6]; exact nI_nlt (by omega) (by omega))] at x2
          by_cases k6' : k = 6
          · subst k6'
            have es : nI i - 6 = nI p := by
              rw [k6, show nI i - nI 6 = nI (i - 6) from (Int32.ofNat_sub _ _ (by omega)).symm]
              congr 1
              omega
            rw [if_pos k6.symm, es, m_aK (f, r) hp6, Option.bind_some, d6] at x2
            refine ask0 h (s 6 p) ?_ x2
            rw [x1]
            unfold J_X10_taken_56
            rw [if_pos k6.symm, if_pos rfl, h10.2.2.1, Option.bind_some, h7.2.2.2.2.2.1, Option.bind_some, aI_ok A.2.2.2.2.2.1 hp6 (by omega), Option.bind_some, show (f, r).1 58 p = s 6 p from c6]
            rcases (hw.1 p hp).2.1 with y | y
            · rw [y]; rfl
            · rw [y]; rfl
          · have kn : ¬ nI k = 6 := fun y => k6' (nI_inj (by omega) (by omega) (y.trans k6))
            refine ask0 h (-13) ?_ (by rw [x2, if_neg kn])
            rw [x1]
            unfold J_X10_taken_56
            rw [if_neg kn, if_pos rfl]
/-! one of people comes -/
def w_new1 (n : Nat) (s : Nat → Nat → Int32) (a b : Int32) : Nat → Nat → Int32 := fun j k => if 1 ≤ j ∧ k = n then (if j = 1 then b / 100 else if j = 2 then i_rem b 100 else if j = 4 then a / 10 else if j = 5 then i_rem a 10 else 0) else s j k
def w_bad (n : Nat) (s : Nat → Nat → Int32) (a b : Int32) : Prop := s_in a 0 59 = 0 ∨ s_in b 0 1999 = 0 ∨ s_opp (b / 100) (i_rem b 100) = 0 ∨ ¬ s_who (s 1) n (b / 100) = -1
theorem w_new_wf {n : Nat} {s : Nat → Nat → Int32} (hw : w_wf n s) (h6 : n ≤ 6) {a b : Int32} (hb : ¬ w_bad n s a b) : w_wf (n + 1) (w_new1 n s a b) := by
  unfold w_bad at hb
  obtain ⟨A, hA, rfl⟩ : ∃ A, A ≤ 59 ∧ a = nI A := by
    rcases arg3 a 59 60 59 (by decide +kernel) (by decide +kernel) (by omega) with ⟨-, q2⟩ | ⟨-, -, -, -, -, q6⟩ | ⟨A, hA, e, -⟩
    · exact absurd (Or.inl q2) hb
    · exact absurd (Or.inl q6) hb
    · exact ⟨A, hA, e⟩
  obtain ⟨B, hB, rfl⟩ : ∃ B, B ≤ 1999 ∧ b = nI B := by
    rcases arg3 b 1999 2000 1999 (by decide +kernel) (by decide +kernel) (by omega) with ⟨-, q2⟩ | ⟨-, -, -, -, -, q6⟩ | ⟨A, hA, e, -⟩
    · exact absurd (Or.inr (Or.inl q2)) hb
    · exact absurd (Or.inr (Or.inl q6)) hb
    · exact ⟨A, hA, e⟩
  have k100 : (100 : Int32) = nI 100 := by decide +kernel
  have eW : nI B / 100 = nI (B / 100) := by rw [k100]; exact nI_div (by omega) (by omega)
  have eL : i_rem (nI B) 100 = nI (B % 100) := by rw [k100]; exact nI_rem (by omega) (by omega)
  have eK : nI A / 10 = nI (A / 10) := by rw [k_10]; exact nI_div (by omega) (by omega)
  have eM : i_rem (nI A) 10 = nI (A % 10) := by rw [k_10]; exact nI_rem (by omega) (by omega)
  rw [eW, eL] at hb
  have ho : s_opp (nI (B / 100)) (nI (B % 100)) = 1 := by
    rcases s_opp01 (nI (B / 100)) (nI (B % 100)) with z | z
    · exact absurd (Or.inr (Or.inr (Or.inl z))) hb
    · exact z
  obtain ⟨c, hc, ec, hne⟩ := s_opp_ex (a := B / 100) (by omega) ho
  have ec := nI_inj (by omega) (by omega) ec
  have free : ∀ j, j < n → s 1 j ≠ nI (B / 100) := by
    intro j hj e
    rcases s_who_or (s 1) n (nI (B / 100)) with ⟨y1, y2⟩ | ⟨i, y1, y2, y3, y4⟩
    · exact y2 j hj e
    · exact hb (Or.inr (Or.inr (Or.inr (fun z => nI_ne_m1 (j := i) (by omega) (y2.symm.trans z)))))
  have at_n : ∀ j, 1 ≤ j → w_new1 n s (nI A) (nI B) j n = if j = 1 then nI B / 100 else if j = 2 then i_rem (nI B) 100 else if j = 4 then nI A / 10 else if j = 5 then i_rem (nI A) 10 else 0 := fun j hj => if_pos ⟨hj, rfl⟩
  have off : ∀ j p, p ≠ n → w_new1 n s (nI A) (nI B) j p = s j p := fun j p hp => if_neg (fun z => hp z.2)
  refine ⟨fun p hp => ?_, fun p q hp hq e => ?_⟩
  · by_cases z : p = n
    · subst z
      rw [at_n 1 (by omega), at_n 2 (by omega), at_n 3 (by omega), at_n 4 (by omega), at_n 5 (by omega), at_n 6 (by omega)]
      refine ⟨⟨B / 100, B % 100, by omega, by omega, eW, eL, by omega⟩, Or.inl rfl, ⟨A / 10, by omega, eK⟩, ⟨A % 10, by omega, eM⟩, 0, by omega, nI_0.symm⟩
    · rw [off 1 p z, off 2 p z, off 3 p z, off 4 p z, off 5 p z, off 6 p z]
      exact hw.1 p (by omega)
  · by_cases zp : p = n
    · by_cases zq : q = n
      · omega
      · subst zp
        rw [at_n 1 (by omega), off 1 q zq] at e
        exact absurd (e.symm.trans eW) (free q (by omega))
    · by_cases zq : q = n
      · subst zq
        rw [at_n 1 (by omega), off 1 p zp] at e
        exact absurd (e.trans eW) (free p (by omega))
      · rw [off 1 p zp, off 1 q zq] at e
        exact hw.2 p q (by omega) (by omega) e
theorem come_cls0 {f : Nat → Nat → Int32} {r : Nat → Nat → Option Nat} {n : Nat} {tk : Nat → Nat → List (Nat × Int32)} {s : Nat → Nat → Int32} (h : SQ f r 52 n tk s) {a b : Int32} (hb : w_bad n s a b) : f_X10_comes SS 0 a b (f, r) = some (-2, (f, r)) := by
  have hG : GG (f, r) := h.cs.1
  have h10 := rf10 hG
  unfold f_X10_comes
  rw [if_pos ob10]
  rcases arg3 a 59 60 59 (by decide +kernel) (by decide +kernel) (by omega) with ⟨q1, q2⟩ | ⟨q1, q2, q3, q4, q5, q6⟩ | ⟨A, hA, e, q1, q2, q3, q4, q5, q6⟩
  · rw [if_pos q1]
  · rw [if_neg q1, if_pos q3]
  · rw [if_neg q1, if_neg q3]
    rcases arg3 b 1999 2000 1999 (by decide +kernel) (by decide +kernel) (by omega) with ⟨p1, p2⟩ | ⟨p1, p2, p3, p4, p5, p6⟩ | ⟨B, hB, e, p1, p2, p3, p4, p5, p6⟩
    · rw [if_pos p1]
    · rw [if_neg p1, if_neg p5]
    · rw [if_neg p1, if_pos p5, cs_opp, Option.bind_some]
      by_cases z : s_opp (b / 100) (i_rem b 100) = 0
      · rw [if_pos z]
      · rw [if_neg z, h10.2.2.1, Option.bind_some, sq_who h, Option.bind_some]
        rw [if_neg]
        rcases hb with y | y | y | y
        · rw [q6] at y; exact absurd y (by decide)
        · rw [p6] at y; exact absurd y (by decide)
        · exact absurd y z
        · exact y
theorem come_ref0 {f : Nat → Nat → Int32} {r : Nat → Nat → Option Nat} {n : Nat} {tk : Nat → Nat → List (Nat × Int32)} {s : Nat → Nat → Int32} (h : MW f r n tk s) {a b : Int32} (hb : w_bad n s a b) : f_X11_person SS 76 a b (f, r) = some (-2, (f, r)) := by
  unfold f_X11_person J_X11_person_39 J_X11_person_40
  rw [if_pos ob11, m_in, Option.bind_some]
  by_cases y1 : s_in a 0 59 = 0
  · rw [if_pos y1, if_pos rfl]
  · rw [if_neg y1, m_in, Option.bind_some]
    by_cases y2 : s_in b 0 1999 = 0
    · rw [if_pos y2, if_pos rfl]
    · rw [if_neg y2, m_acr, Option.bind_some]
      by_cases y3 : s_opp (b / 100) (i_rem b 100) = 0
      · rw [if_pos y3, if_pos rfl]
      · rw [if_neg y3, if_neg (by decide), mw_who h, Option.bind_some]
        rcases hb with y | y | y | y
        · exact absurd y y1
        · exact absurd y y2
        · exact absurd y y3
        · rw [if_neg y]
theorem come_cls {f : Nat → Nat → Int32} {r : Nat → Nat → Option Nat} {n : Nat} {tk : Nat → Nat → List (Nat × Int32)} {s : Nat → Nat → Int32} (h : SQ f r 52 n tk s) (hw : w_wf n s) {a b : Int32} (hb : ¬ w_bad n s a b) : (n = 6 ∧ f_X10_comes SS 0 a b (f, r) = some (-4, (f, r))) ∨ (n < 6 ∧ ∃ f', f_X10_comes SS 0 a b (f, r) = some (nI n, (f', r)) ∧ SQ f' r 52 (n + 1) tk (w_new1 n s a b) ∧ ∀ q, (q < 52 ∨ 59 ≤ q) → f' q = f q) := by
  have hG : GG (f, r) := h.cs.1
  have h6 := h.le
  have hS : IsS 52 := Or.inl rfl
  have b52 : e_ob SS 7 52 = true := obS hS
  have r52 : ∀ f, e_gR SS (f, r) 10 0 2 = some 52 := fun f => (rf10 (g := (f, r)) hG).2.2.1
  have r7 := fun f => rfS (g := (f, r)) hG hS
  have k6 : (6 : Int32) = nI 6 := by decide +kernel
  have e1 : s_in a 0 59 = 1 := by
    rcases s_in01 a 0 59 with z | z
    · exact absurd (Or.inl z) hb
    · exact z
  have e2 : s_in b 0 1999 = 1 := by
    rcases s_in01 b 0 1999 with z | z
    · exact absurd (Or.inr (Or.inl z)) hb
    · exact z
  have e3 : ¬ s_opp (b / 100) (i_rem b 100) = 0 := fun z => hb (Or.inr (Or.inr (Or.inl z)))
  have e4 : s_who (s 1) n (b / 100) = -1 := by
    by_cases z : s_who (s 1) n (b / 100) = -1
    · exact z
    · exact absurd (Or.inr (Or.inr (Or.inr z))) hb
  have x1 : f_X10_comes SS 0 a b (f, r) = if nI n < 6 then ((e_aS SS (f, r) 0 53 (nI n) (b / 100)).bind fun g19 => (e_aS SS g19 0 54 (nI n) (i_rem b 100)).bind fun g25 => (e_aS SS g25 0 55 (nI n) 0).bind fun g31 => (e_aS SS g31 1 58 (nI n) 0).bind fun g37 => (e_aS SS g37 0 56 (nI n) (a / 10)).bind fun g43 => (e_aS SS g43 0 57 (nI n) (i_rem a 10)).bind fun g49 => (e_sI SS g49 7 52 6 (nI n + 1)).bind fun g53 => some (nI n, g53)) else some (-4, (f, r)) := by
    unfold f_X10_comes
    rw [if_pos ob10]
    rcases arg3 a 59 60 59 (by decide +kernel) (by decide +kernel) (by omega) with ⟨q1, q2⟩ | ⟨q1, q2, q3, q4, q5, q6⟩ | ⟨A, hA, e, q1, q2, q3, q4, q5, q6⟩
    · rw [q2] at e1; exact absurd e1 (by decide)
    · rw [q6] at e1; exact absurd e1 (by decide)
    · rw [if_neg q1, if_neg q3]
      rcases arg3 b 1999 2000 1999 (by decide +kernel) (by decide +kernel) (by omega) with ⟨p1, p2⟩ | ⟨p1, p2, p3, p4, p5, p6⟩ | ⟨B, hB, e, p1, p2, p3, p4, p5, p6⟩
      · rw [p2] at e2; exact absurd e2 (by decide)
      · rw [p6] at e2; exact absurd e2 (by decide)
      · rw [if_neg p1, if_pos p5, cs_opp, Option.bind_some, if_neg e3, r52, Option.bind_some, sq_who h, Option.bind_some, if_pos e4, r52, Option.bind_some, gI_ok b52, Option.bind_some]
        simp only [h.n]
        by_cases z : n < 6
        · have S0 : ∀ (f : Nat → Nat → Int32) (q : Nat) (v : Int32), ArA 0 q 6 → e_aS SS (f, r) 0 q (nI n) v = some (e_up f q n v, r) := fun f q v ha => aS_ok ha z (by omega)
          have S1 : ∀ (f : Nat → Nat → Int32) (q : Nat) (v : Int32), ArA 1 q 6 → e_aS SS (f, r) 1 q (nI n) v = some (e_up f q n (vp_nar .boolean v), r) := fun f q v ha => aSz_ok ha z (by omega)
          have A := arS hS
          simp only [r52, r7, Option.bind_some, S0 _ _ _ A.1, S0 _ _ _ A.2.1, S0 _ _ _ A.2.2.1, S0 _ _ _ A.2.2.2.1, S0 _ _ _ A.2.2.2.2.1, S1 _ _ _ A.2.2.2.2.2.1, gI_ok b52, h.n]
        · rw [if_neg (by rw [k6]; exact nI_nlt (by omega) (by omega)), if_neg (by rw [k6]; exact nI_nlt (by omega) (by omega))]
  by_cases z : n < 6
  · refine Or.inr ⟨z, ?_⟩
    have S0 : ∀ (f : Nat → Nat → Int32) (q : Nat) (v : Int32), ArA 0 q 6 → e_aS SS (f, r) 0 q (nI n) v = some (e_up f q n v, r) := fun f q v ha => aS_ok ha z (by omega)
    have S1 : ∀ (f : Nat → Nat → Int32) (q : Nat) (v : Int32), ArA 1 q 6 → e_aS SS (f, r) 1 q (nI n) v = some (e_up f q n (vp_nar .boolean v), r) := fun f q v ha => aSz_ok ha z (by omega)
    have A := arS hS
    have nar0 : vp_nar .boolean (0 : Int32) = 0 := by decide +kernel
    obtain ⟨F, hF⟩ : ∃ F, F = e_up (e_up (e_up (e_up (e_up (e_up (e_up f 53 n (b / 100)) 54 n (i_rem b 100)) 55 n 0) 58 n 0) 56 n (a / 10)) 57 n (i_rem a 10)) 52 6 (nI (n + 1)) := ⟨_, rfl⟩
    have rows : ∀ j, 1 ≤ j → j ≤ 6 → ∀ p, F (52 + j) p = if p = n then w_new1 n s a b j n else f (52 + j) p := by
      intro j j1 j2 p
      have hn : w_new1 n s a b j n = if j = 1 then b / 100 else if j = 2 then i_rem b 100 else if j = 4 then a / 10 else if j = 5 then i_rem a 10 else 0 := if_pos ⟨j1, rfl⟩
      rw [hn, hF]
      match j, j1, j2 with
      | 1, _, _ => rw [e_up_row (by omega), e_up_row (by omega), e_up_row (by omega), e_up_row (by omega), e_up_row (by omega), e_up_row (by omega), e_up_at]; rfl
      | 2, _, _ => rw [e_up_row (by omega), e_up_row (by omega), e_up_row (by omega), e_up_row (by omega), e_up_row (by omega), e_up_at, e_up_row (by omega)]; rfl
      | 3, _, _ => rw [e_up_row (by omega), e_up_row (by omega), e_up_row (by omega), e_up_row (by omega), e_up_at, e_up_row (by omega), e_up_row (by omega)]; rfl
      | 4, _, _ => rw [e_up_row (by omega), e_up_row (by omega), e_up_at, e_up_row (by omega), e_up_row (by omega), e_up_row (by omega), e_up_row (by omega)]; rfl
      | 5, _, _ => rw [e_up_row (by omega), e_up_at, e_up_row (by omega), e_up_row (by omega), e_up_row (by omega), e_up_row (by omega), e_up_row (by omega)]; rfl
      | 6, _, _ => rw [e_up_row (by omega), e_up_row (by omega), e_up_row (by omega), e_up_at, e_up_row (by omega), e_up_row (by omega), e_up_row (by omega)]; rfl
    have out : ∀ q, (q < 52 ∨ 59 ≤ q) → F q = f q := fun q hq => by rw [hF, e_up_row (by omega), e_up_row (by omega), e_up_row (by omega), e_up_row (by omega), e_up_row (by omega), e_up_row (by omega), e_up_row (by omega)]
    have r0 : ∀ k, F 52 k = if k = 6 then nI (n + 1) else f 52 k := fun k => by rw [hF, e_up_at, e_up_row (by omega), e_up_row (by omega), e_up_row (by omega), e_up_row (by omega), e_up_row (by omega), e_up_row (by omega)]
    refine ⟨F, ?_, ?_, out⟩
    · rw [x1, if_pos (by rw [k6]; exact nI_lt z (by omega)), S0 _ _ _ A.1, Option.bind_some, S0 _ _ _ A.2.1, Option.bind_some, S0 _ _ _ A.2.2.1, Option.bind_some, S1 _ _ _ A.2.2.2.2.2.1, Option.bind_some, S0 _ _ _ A.2.2.2.1, Option.bind_some, S0 _ _ _ A.2.2.2.2.1, Option.bind_some, sI_ok b52, Option.bind_some, nar0, nI_1, hF]
    · have wn := w_new_wf hw h6 hb
      obtain ⟨s0, h1, h2⟩ := h
      refine ⟨fun j => F (52 + j), ⟨⟨hG, hS, ?_, by omega⟩, ?_, fun j _ => rfl, fun p hp => ?_⟩, ⟨?_, ?_⟩, fun j j1 j2 p hp => ?_⟩
      · show F 52 6 = _
        rw [r0, if_pos rfl]
      · refine HT_of h1.2.1 ?_ (fun q hq => out q (by omega))
        rw [r0, if_neg (by omega)]
      · show ∃ k, k < 6 ∧ F (52 + 4) p = nI k
        obtain ⟨k, hk, ek⟩ := (wn.1 p hp).2.2.1
        refine ⟨k, hk, ?_⟩
        rw [rows 4 (by omega) (by omega) p]
        by_cases y : p = n
        · rw [if_pos y, ← y]; subst y; exact ek
        · rw [if_neg y]
          have : w_new1 n s a b 4 p = s 4 p := if_neg (fun z => y z.2)
          rw [this] at ek
          exact ((congrFun (h1.2.2.1 4 (by omega)) p).trans (h2.r (j := 4) (by omega) (by omega) p (by omega))).trans ek
      · show F 52 7 = w_new1 n s a b 0 7
        rw [r0, if_neg (by omega)]
        exact (congrFun (h1.2.2.1 0 (by omega)) 7).trans h2.1.1
      · show F 52 8 = w_new1 n s a b 0 8
        rw [r0, if_neg (by omega)]
        exact (congrFun (h1.2.2.1 0 (by omega)) 8).trans h2.1.2
      · show F (52 + j) p = _
        rw [rows j j1 j2 p]
        by_cases y : p = n
        · rw [if_pos y, y]
        · rw [if_neg y]
          have : w_new1 n s a b j p = s j p := if_neg (fun z => y z.2)
          rw [this]
          exact (congrFun (h1.2.2.1 j (by omega)) p).trans (h2.r j1 j2 p (by omega))
  · refine Or.inl ⟨by omega, ?_⟩
    rw [x1, if_neg (by rw [k6]; exact nI_nlt (by omega) (by omega))]
theorem come_ref {f : Nat → Nat → Int32} {r : Nat → Nat → Option Nat} {n : Nat} {tk : Nat → Nat → List (Nat × Int32)} {s : Nat → Nat → Int32} (h : MW f r n tk s) {a b : Int32} (hb : ¬ w_bad n s a b) : (n = 6 ∧ f_X11_person SS 76 a b (f, r) = some (-4, (f, r))) ∨ (n < 6 ∧ ∃ f', f_X11_person SS 76 a b (f, r) = some (nI n, (f', r)) ∧ MW f' r (n + 1) tk (w_new1 n s a b) ∧ (∀ q, (q < 76 ∨ 80 ≤ q) → f' q = f q) ∧ ∀ k, k ≠ 0 → f' 76 k = f 76 k) := by
  have hG : GG (f, r) := h.1.1
  have h6 := h.1.2.2
  have r77 : ∀ f, e_gR SS (f, r) 11 76 1 = some 77 := fun f => (rf11 (g := (f, r)) hG).1
  have r78 : ∀ f, e_gR SS (f, r) 11 76 2 = some 78 := fun f => (rf11 (g := (f, r)) hG).2.1
  have r79 : ∀ f, e_gR SS (f, r) 11 76 3 = some 79 := fun f => (rf11 (g := (f, r)) hG).2.2.1
  have k6 : (6 : Int32) = nI 6 := by decide +kernel
  have e1 : ¬ s_in a 0 59 = 0 := fun z => hb (Or.inl z)
  have e2 : ¬ s_in b 0 1999 = 0 := fun z => hb (Or.inr (Or.inl z))
  have e3 : ¬ s_opp (b / 100) (i_rem b 100) = 0 := fun z => hb (Or.inr (Or.inr (Or.inl z)))
  have e4 : s_who (s 1) n (b / 100) = -1 := by
    by_cases z : s_who (s 1) n (b / 100) = -1
    · exact z
    · exact absurd (Or.inr (Or.inr (Or.inr z))) hb
  have x1 : f_X11_person SS 76 a b (f, r) = J_X11_person_40 SS 76 a b 1 (f, r) := by
    unfold f_X11_person
    rw [if_pos ob11, m_in, Option.bind_some, if_neg e1, m_in, Option.bind_some, if_neg e2, m_acr, Option.bind_some, if_neg e3]
  have en : (f, r).1 76 0 = nI n := h.1.2.1
  by_cases z : n < 6
  · refine Or.inr ⟨z, ?_⟩
    have n6 : ¬ nI n = 6 := fun y => by have := nI_inj (by omega) (by omega) (y.trans k6); omega
    obtain ⟨F, hF⟩ : ∃ F, F = e_up (e_up (e_up (e_up (e_up (e_up (e_up f 77 n (a / 10)) 78 n (i_rem a 10)) 79 (4 * n + 0) (b / 100)) 79 (4 * n + 1) (i_rem b 100)) 79 (4 * n + 2) 0) 79 (4 * n + 3) 0) 76 0 (nI (n + 1)) := ⟨_, rfl⟩
    have at76 : ∀ k, k ≠ 0 → F 76 k = f 76 k := fun k hk => by rw [hF, e_up_ne (Or.inr hk), e_up_row (by omega), e_up_row (by omega), e_up_row (by omega), e_up_row (by omega), e_up_row (by omega), e_up_row (by omega)]
    have F0 : F 76 0 = nI (n + 1) := by rw [hF, e_up_eq]
    have out : ∀ q, (q < 76 ∨ 80 ≤ q) → F q = f q := fun q hq => by rw [hF, e_up_row (by omega), e_up_row (by omega), e_up_row (by omega), e_up_row (by omega), e_up_row (by omega), e_up_row (by omega), e_up_row (by omega)]
    have F77 : ∀ p, F 77 p = if p = n then a / 10 else f 77 p := fun p => by rw [hF, e_up_row (by omega), e_up_row (by omega), e_up_row (by omega), e_up_row (by omega), e_up_row (by omega), e_up_row (by omega), e_up_at]
    have F78 : ∀ p, F 78 p = if p = n then i_rem a 10 else f 78 p := fun p => by rw [hF, e_up_row (by omega), e_up_row (by omega), e_up_row (by omega), e_up_row (by omega), e_up_row (by omega), e_up_at, e_up_row (by omega)]
    have F79 : ∀ p c, c < 4 → F 79 (4 * p + c) = if p = n then (if c = 0 then b / 100 else if c = 1 then i_rem b 100 else 0) else f 79 (4 * p + c) := by
      intro p c hc
      rw [hF, e_up_row (by omega), e_up_at, e_up_at, e_up_at, e_up_at, e_up_row (by omega), e_up_row (by omega)]
      by_cases y : p = n
      · subst y
        match c, hc with
        | 0, _ => rw [if_neg (by omega), if_neg (by omega), if_neg (by omega), if_pos rfl, if_pos rfl, if_pos rfl]
        | 1, _ => rw [if_neg (by omega), if_neg (by omega), if_pos rfl, if_pos rfl, if_neg (by omega), if_pos rfl]
        | 2, _ => rw [if_neg (by omega), if_pos rfl, if_pos rfl, if_neg (by omega), if_neg (by omega)]
        | 3, _ => rw [if_pos rfl, if_pos rfl, if_neg (by omega), if_neg (by omega)]
      · rw [if_neg (by omega), if_neg (by omega), if_neg (by omega), if_neg (by omega), if_neg y]
    refine ⟨F, ?_, ?_, out, at76⟩
    · have S77 : ∀ (f : Nat → Nat → Int32) (v : Int32), e_aS SS (f, r) 0 77 (nI n) v = some (e_up f 77 n v, r) := fun f v => aS_ok arM.1 z (by omega)
      have S78 : ∀ (f : Nat → Nat → Int32) (v : Int32), e_aS SS (f, r) 0 78 (nI n) v = some (e_up f 78 n v, r) := fun f v => aS_ok arM.2.1 z (by omega)
      have S79 : ∀ (f : Nat → Nat → Int32) (v : Int32), e_aS SS (f, r) 0 79 ((4 : Int32) * nI n) v = some (e_up f 79 (4 * n + 0) v, r) := fun f v => m_stW z v
      have S1 : ∀ (f : Nat → Nat → Int32) (v : Int32), e_aS SS (f, r) 0 79 ((4 : Int32) * nI n + 1) v = some (e_up f 79 (4 * n + 1) v, r) := fun f v => m_st z (by omega) (by decide +kernel) v
      have S2 : ∀ (f : Nat → Nat → Int32) (v : Int32), e_aS SS (f, r) 0 79 ((4 : Int32) * nI n + 2) v = some (e_up f 79 (4 * n + 2) v, r) := fun f v => m_st z (by omega) (by decide +kernel) v
      have S3 : ∀ (f : Nat → Nat → Int32) (v : Int32), e_aS SS (f, r) 0 79 ((4 : Int32) * nI n + 3) v = some (e_up f 79 (4 * n + 3) v, r) := fun f v => m_st z (by omega) (by decide +kernel) v
      have en' : f 76 0 = nI n := en
      have ne1 : (76 : Nat) ≠ 77 := by omega
      have ne2 : (76 : Nat) ≠ 78 := by omega
      have ne3 : (76 : Nat) ≠ 79 := by omega
      rw [x1]
      unfold J_X11_person_40
      rw [if_neg (by decide), mw_who h, Option.bind_some, if_pos e4, gI_ok ob11, Option.bind_some, if_neg (by rw [show (s_who (s 1) n (b / 100), (f, r)).2.1 76 0 = nI n from en]; exact n6)]
      simp only [r77, r78, r79, Option.bind_some, gI_ok ob11, sI_ok ob11, S77, S78, e_up_row ne1, e_up_row ne2, e_up_row ne3, en', S79, S1, S2, S3, nI_1]
      rw [← hF, F0, nI_pred]
    · obtain ⟨h1, h2, h3, t, h4, h5, h7, h8⟩ := h
      refine ⟨⟨hG, F0, by omega⟩, ⟨⟨?_, ?_⟩, fun j j1 j2 p hp => ?_⟩, w_new_wf h3 h6 hb, t, h4, (at76 10 (by omega)).trans h5, h7.of (out 81 (by omega)) (out 82 (by omega)), h8⟩
      · show F 76 4 = w_new1 n s a b 0 7
        rw [at76 4 (by omega)]
        exact h2.1.1
      · show F 76 10 = w_new1 n s a b 0 8
        rw [at76 10 (by omega)]
        exact h2.1.2
      · by_cases y : p = n
        · subst y
          have hn : w_new1 p s a b j p = if j = 1 then b / 100 else if j = 2 then i_rem b 100 else if j = 4 then a / 10 else if j = 5 then i_rem a 10 else 0 := if_pos ⟨j1, rfl⟩
          rw [hn]
          match j, j1, j2 with
          | 1, _, _ => exact (F79 p 0 (by omega)).trans (if_pos rfl)
          | 2, _, _ => exact (F79 p 1 (by omega)).trans (if_pos rfl)
          | 3, _, _ => exact (F79 p 2 (by omega)).trans (if_pos rfl)
          | 4, _, _ => exact (F77 p).trans (if_pos rfl)
          | 5, _, _ => exact (F78 p).trans (if_pos rfl)
          | 6, _, _ => exact (F79 p 3 (by omega)).trans (if_pos rfl)
        · have hn : w_new1 n s a b j p = s j p := if_neg (fun z => y z.2)
          rw [hn, ← h2.r j1 j2 p (by omega)]
          match j, j1, j2 with
          | 1, _, _ => exact (F79 p 0 (by omega)).trans (if_neg y)
          | 2, _, _ => exact (F79 p 1 (by omega)).trans (if_neg y)
          | 3, _, _ => exact (F79 p 2 (by omega)).trans (if_neg y)
          | 4, _, _ => exact (F77 p).trans (if_neg y)
          | 5, _, _ => exact (F78 p).trans (if_neg y)
          | 6, _, _ => exact (F79 p 3 (by omega)).trans (if_neg y)
  · refine Or.inl ⟨by omega, ?_⟩
    have n6 : nI n = 6 := by rw [show n = 6 by omega]; decide +kernel
    rw [x1]
    unfold J_X11_person_40
    rw [if_neg (by decide), mw_who h, Option.bind_some, if_pos e4, gI_ok ob11, Option.bind_some, if_pos (by rw [show (s_who (s 1) n (b / 100), (f, r)).2.1 76 0 = nI n from en]; exact n6)]
