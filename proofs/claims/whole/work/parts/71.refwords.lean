/-! the reference's street, in the class's words -/
def m_s (f : Nat → Nat → Int32) : Nat → Nat → Int32 := fun j k => if j = 0 then (if k = 7 then f 76 4 else f 76 10) else if j = 1 then f 79 (4 * k) else if j = 2 then f 79 (4 * k + 1) else if j = 3 then f 79 (4 * k + 2) else if j = 4 then f 77 k else if j = 5 then f 78 k else f 79 (4 * k + 3)
def MW (f : Nat → Nat → Int32) (r : Nat → Nat → Option Nat) (n : Nat) (tk : Nat → Nat → List (Nat × Int32)) (s : Nat → Nat → Int32) : Prop := MS (f, r) n ∧ w_eq n (m_s f) s ∧ w_wf n s ∧ ∃ t, t < 6 ∧ f 76 10 = nI t ∧ RX (f, r) t (tk t) ∧ t_ok (tk t)
/-- what a saying touches -/
def KA (f f' : Nat → Nat → Int32) : Prop := ∀ b, b ≠ 91 → b ≠ 92 → f' b = f b
theorem KA.rfl' {f : Nat → Nat → Int32} : KA f f := fun _ _ _ => rfl
theorem KA.trans {f f' f'' : Nat → Nat → Int32} (h : KA f f') (k : KA f' f'') : KA f f'' := fun b h1 h2 => (k b h1 h2).trans (h b h1 h2)
theorem RX.of {f f' : Nat → Nat → Int32} {r : Nat → Nat → Option Nat} {t : Nat} {tk : Nat → List (Nat × Int32)} (h : RX (f, r) t tk) (e1 : f' 81 = f 81) (e2 : f' 82 = f 82) : RX (f', r) t tk := by
  refine ⟨h.1, fun p hp => ?_, fun p hp j hj => ?_⟩
  · show f' 82 _ = _
    rw [e2]
    exact h.2.1 p hp
  · show f' 81 _ = _ ∧ _
    rw [e1]
    exact h.2.2 p hp j hj
theorem MW.of {f f' : Nat → Nat → Int32} {r : Nat → Nat → Option Nat} {n : Nat} {tk : Nat → Nat → List (Nat × Int32)} {s : Nat → Nat → Int32} (h : MW f r n tk s) (e0 : f' 76 0 = f 76 0) (e4 : f' 76 4 = f 76 4) (e10 : f' 76 10 = f 76 10) (e77 : f' 77 = f 77) (e78 : f' 78 = f 78) (e79 : ∀ k, k < 24 → f' 79 k = f 79 k) (e81 : f' 81 = f 81) (e82 : f' 82 = f 82) : MW f' r n tk s := by
  obtain ⟨h1, h2, h3, t, h4, h5, h6, h7⟩ := h
  refine ⟨⟨h1.1, e0.trans h1.2.1, h1.2.2⟩, ?_, h3, t, h4, e10.trans h5, h6.of e81 e82, h7⟩
  have h66 := h1.2.2
  refine w_eq.trans (t := m_s f) ⟨⟨e4, e10⟩, fun j j1 j2 p hp => ?_⟩ h2
  match j, j1, j2 with
  | 1, _, _ => exact e79 _ (by omega)
  | 2, _, _ => exact e79 _ (by omega)
  | 3, _, _ => exact e79 _ (by omega)
  | 4, _, _ => exact congrFun e77 p
  | 5, _, _ => exact congrFun e78 p
  | 6, _, _ => exact e79 _ (by omega)
theorem MW.ka {f f' : Nat → Nat → Int32} {r : Nat → Nat → Option Nat} {n : Nat} {tk : Nat → Nat → List (Nat × Int32)} {s : Nat → Nat → Int32} (h : MW f r n tk s) (k : KA f f') : MW f' r n tk s := by
  have e76 : f' 76 = f 76 := k 76 (by omega) (by omega)
  exact h.of (by rw [e76]) (by rw [e76]) (by rw [e76]) (k 77 (by omega) (by omega)) (k 78 (by omega) (by omega)) (fun q _ => by rw [k 79 (by omega) (by omega)]) (k 81 (by omega) (by omega)) (k 82 (by omega) (by omega))
theorem s_beside2_c {W W' K K' : Nat → Int32} {n : Nat} (hW : ∀ p, p < n → W p = W' p) (hK : ∀ p, p < n → K p = K' p) {p : Nat} (hp : p < n) : s_beside2 W K n p = s_beside2 W' K' n p :=
  itF_congr (n := n) (fun i _ hi => by simp only [hW i hi, hK i hi, hW p hp]) n 0 0 (by omega)
theorem MW.nm {f : Nat → Nat → Int32} {r : Nat → Nat → Option Nat} {n : Nat} {tk : Nat → Nat → List (Nat × Int32)} {s : Nat → Nat → Int32} (h : MW f r n tk s) {p : Nat} (hp : p < n) : ∀ k, k < 6 → m_nm (f, r) n p k = w_nm s n p k := by
  obtain ⟨h1, h2, h3, -⟩ := h
  have r1 : ∀ q, q < n → m_W (f, r) q = s 1 q := h2.r (j := 1) (by omega) (by omega)
  have r2 : ∀ q, q < n → m_L (f, r) q = s 2 q := h2.r (j := 2) (by omega) (by omega)
  have r3 : ∀ q, q < n → m_N (f, r) q = s 3 q := h2.r (j := 3) (by omega) (by omega)
  have r5 : ∀ q, q < n → f 78 q = s 5 q := h2.r (j := 5) (by omega) (by omega)
  have r6 : ∀ q, q < n → m_K (f, r) q = s 6 q := h2.r (j := 6) (by omega) (by omega)
  intro k hk
  match k, hk with
  | 0, _ => exact r3 p hp
  | 1, _ =>
    show s_far (m_W (f, r) p) (m_L (f, r) p) = i_abs (i_rem (s 1 p) 10 - i_rem (s 2 p) 10)
    rw [r1 p hp, r2 p hp]
    unfold s_far i_abs
    split
    · rfl
    · rw [Int32.sub_eq_add_neg 0, Int32.zero_add]
  | 2, _ =>
    show s_beside2 (m_W (f, r)) (m_K (f, r)) n p = s_beside (s 1) (s 6) n p
    rw [s_beside_eq h3 h1.2.2 hp]
    exact s_beside2_c r1 r6 hp
  | 3, _ => exact h2.1.1
  | 4, _ =>
    show s_lookers (m_L (f, r)) n (m_W (f, r) p) = s_lookers (s 2) n (s 1 p)
    rw [r1 p hp]
    exact s_lookers_c r2 _
  | 5, _ => exact r5 p hp
theorem m_say {f : Nat → Nat → Int32} {r : Nat → Nat → Option Nat} {n : Nat} {tk : Nat → Nat → List (Nat × Int32)} {s : Nat → Nat → Int32} (h : MW f r n tk s) {p : Nat} (hp : p < n) {q : Nat} (hq : q < 3) : ∃ f', f_X11_asksOf SS 76 (nI q) (nI p) (f, r) = some (s_say tk (s 0 8) q (w_nm s n p), (f', r)) ∧ KA f f' := by
  have hnm := h.nm hp
  obtain ⟨h1, h2, h3, t, h4, h5, h6, h7⟩ := h
  have h66 := h1.2.2
  obtain ⟨f', a, b⟩ := m_asks h1 h4 h5 h6 h7 (show p < 6 by omega) hq hnm
  refine ⟨f', ?_, b⟩
  have e8 : s 0 8 = nI t := h2.1.2.symm.trans h5
  rw [a]
  unfold s_say
  rw [e8, if_neg (nI_pos (by omega)), if_pos (nI_lt h4 (by omega)), nI_clamp (by omega)]
theorem MW.lt {f : Nat → Nat → Int32} {r : Nat → Nat → Option Nat} {n : Nat} {tk : Nat → Nat → List (Nat × Int32)} {s : Nat → Nat → Int32} (h : MW f r n tk s) {p : Nat} (hp : p < n) : p < 6 := Nat.lt_of_lt_of_le hp h.1.2.2
theorem MW.met {f : Nat → Nat → Int32} {r : Nat → Nat → Option Nat} {n : Nat} {tk : Nat → Nat → List (Nat × Int32)} {s : Nat → Nat → Int32} (h : MW f r n tk s) {p : Nat} (hp : p < n) : f_X11_isMet SS 76 (nI p) (f, r) = some (s_met (s 1) (s 2) n p, (f, r)) := by
  rw [m_met h.1 (h.lt hp), s_met_c h.1.2.2 (W := m_W (f, r)) (L := m_L (f, r)) (h.2.1.r (j := 1) (by omega) (by omega)) (h.2.1.r (j := 2) (by omega) (by omega)) hp]
theorem m_lean {f : Nat → Nat → Int32} {r : Nat → Nat → Option Nat} {n : Nat} {tk : Nat → Nat → List (Nat × Int32)} {s : Nat → Nat → Int32} (h : MW f r n tk s) {p : Nat} (hp : p < n) : ∃ f', f_X11_leansOf SS 76 (nI p) (f, r) = some (w_lean tk s n p, (f', r)) ∧ KA f f' := by
  have hp6 := h.lt hp
  have hm := h.met hp
  obtain ⟨f1, b1, b2⟩ := m_say h hp (q := 0) (by omega)
  rw [nI_0] at b1
  have h' := h.ka b2
  have hG : GG (f, r) := h.1.1
  obtain ⟨k, hk, e⟩ := (h.2.2.1.1 p hp).2.2.1
  have r77 : ∀ f, e_gR SS (f, r) 11 76 1 = some 77 := fun f => (rf11 (g := (f, r)) hG).1
  have r78 : ∀ f, e_gR SS (f, r) 11 76 2 = some 78 := fun f => (rf11 (g := (f, r)) hG).2.1
  have a77 : ∀ f : Nat → Nat → Int32, e_aI SS (f, r) 0 77 (nI p) = some (f 77 p) := fun f => aI_ok arM.1 hp6 (by omega)
  have a78 : ∀ f : Nat → Nat → Int32, e_aI SS (f, r) 0 78 (nI p) = some (f 78 p) := fun f => aI_ok arM.2.1 hp6 (by omega)
  have g4 : ∀ f : Nat → Nat → Int32, e_gI SS (f, r) 11 76 4 = some (f 76 4) := fun f => gI_ok ob11
  have ek : f 77 p = nI k := (h.2.1.r (j := 4) (by omega) (by omega) p hp).trans e
  have ek' : f1 77 p = nI k := (h'.2.1.r (j := 4) (by omega) (by omega) p hp).trans e
  have em' : f1 78 p = s 5 p := h'.2.1.r (j := 5) (by omega) (by omega) p hp
  have ed' : f1 76 4 = s 0 7 := h'.2.1.1.1
  have q5 : (nI k = (5 : Int32)) = (k = 5) := propext (nI_eq (a := k) (b := 5) (by omega) (by omega))
  have q1 : (nI k = (1 : Int32)) = (k = 1) := propext (nI_eq (a := k) (b := 1) (by omega) (by omega))
  have q2 : (nI k = (2 : Int32)) = (k = 2) := propext (nI_eq (a := k) (b := 2) (by omega) (by omega))
  have q3 : (nI k = (3 : Int32)) = (k = 3) := propext (nI_eq (a := k) (b := 3) (by omega) (by omega))
  have q4 : (nI k = (4 : Int32)) = (k = 4) := propext (nI_eq (a := k) (b := 4) (by omega) (by omega))
  unfold w_lean
  rw [e, nI_clamp (by omega)]
  by_cases c5 : k = 5
  · refine ⟨f, ?_, KA.rfl'⟩
    unfold f_X11_leansOf s_leanK
    rw [if_pos ob11, hm]
    simp only [Option.bind_some, r77, a77, ek, q5]
    subst c5
    rw [if_pos rfl, if_neg (show ¬ (5 : Nat) = 1 by omega), if_neg (show ¬ (5 : Nat) = 3 by omega), if_neg (show ¬ (5 : Nat) = 4 by omega), if_pos rfl]
    split <;> rfl
  · refine ⟨f1, ?_, b2⟩
    unfold f_X11_leansOf s_leanK
    rw [if_pos ob11, hm]
    simp only [Option.bind_some, r77, a77, ek, q5, c5, if_false, b1, r78, a78, J_X11_leansOf_49, ek', em', q1, q2, q3, q4, g4, ed']
    by_cases z : s_met (s 1) (s 2) n p = 0
    · simp only [z, if_true]
      by_cases c1 : k = 1
      · simp only [c1, if_true]
      · by_cases c2 : k = 2
        · subst c2; simp
        · by_cases c3 : k = 3
          · subst c3; simp
          · by_cases c4 : k = 4
            · subst c4; simp; split <;> rfl
            · simp only [c1, c2, c3, c4, if_false]
    · simp only [z, if_false]
      by_cases c1 : k = 1
      · simp only [c1, if_true]
      · by_cases c2 : k = 2
        · subst c2; simp
        · by_cases c3 : k = 3
          · subst c3; simp
          · by_cases c4 : k = 4
            · subst c4; simp; split <;> rfl
            · simp only [c1, c2, c3, c4, if_false]
theorem s_bound_ex (x : Int32) : ∃ l, l < 100 ∧ s_bound x 0 99 = nI l := by
  have k99 : (99 : Int32) = nI 99 := by decide +kernel
  have k0 : (0 : Int32) = nI 0 := nI_0.symm
  unfold s_bound i_max i_min
  by_cases a : x < 99
  · rw [if_pos a]
    by_cases b : 0 < x
    · rw [if_pos b]
      obtain ⟨t, ht, e⟩ := nI_ex (x := x) (n := 99) (by omega) (fun z => by
        have z1 := Int32.lt_iff_toInt_lt.mp z
        have z2 := Int32.lt_iff_toInt_lt.mp b
        omega) (by rw [← k99]; exact a)
      exact ⟨t, by omega, e⟩
    · rw [if_neg b]
      exact ⟨0, by omega, k0⟩
  · rw [if_neg a]
    exact ⟨99, by omega, by rw [if_pos (by decide), k99]⟩
theorem i_max_n {l : Nat} (h : l < 2 ^ 31) : i_max 0 (nI l) = nI l := by
  have k0 : (0 : Int32) = nI 0 := nI_0.symm
  unfold i_max
  rw [k0]
  by_cases z : 0 < l
  · rw [if_pos (nI_lt z h)]
  · rw [if_neg (nI_nlt (by omega) (by omega))]
    congr 1
    omega
theorem m_hold {f : Nat → Nat → Int32} {r : Nat → Nat → Option Nat} {n : Nat} {tk : Nat → Nat → List (Nat × Int32)} {s : Nat → Nat → Int32} (h : MW f r n tk s) {p : Nat} (hp : p < n) : ∃ f', f_X11_holdsOf SS 76 (nI p) (f, r) = some (w_hold tk s n p, (f', r)) ∧ KA f f' := by
  have hp6 := h.lt hp
  obtain ⟨f1, b1, b2⟩ := m_say h hp (q := 1) (by omega)
  rw [show nI 1 = (1 : Int32) by decide +kernel] at b1
  have h' := h.ka b2
  have hG : GG (f, r) := h.1.1
  obtain ⟨k, hk, e⟩ := (h.2.2.1.1 p hp).2.2.1
  obtain ⟨m, hm, em0⟩ := (h.2.2.1.1 p hp).2.2.2.1
  have r77 : ∀ f, e_gR SS (f, r) 11 76 1 = some 77 := fun f => (rf11 (g := (f, r)) hG).1
  have r78 : ∀ f, e_gR SS (f, r) 11 76 2 = some 78 := fun f => (rf11 (g := (f, r)) hG).2.1
  have a77 : ∀ f : Nat → Nat → Int32, e_aI SS (f, r) 0 77 (nI p) = some (f 77 p) := fun f => aI_ok arM.1 hp6 (by omega)
  have a78 : ∀ f : Nat → Nat → Int32, e_aI SS (f, r) 0 78 (nI p) = some (f 78 p) := fun f => aI_ok arM.2.1 hp6 (by omega)
  have ek : f 77 p = nI k := (h.2.1.r (j := 4) (by omega) (by omega) p hp).trans e
  have ek' : f1 77 p = nI k := (h'.2.1.r (j := 4) (by omega) (by omega) p hp).trans e
  have em : f 78 p = s 5 p := h.2.1.r (j := 5) (by omega) (by omega) p hp
  have q5 : (nI k = (5 : Int32)) = (k = 5) := propext (nI_eq (a := k) (b := 5) (by omega) (by omega))
  have q2 : (nI k = (2 : Int32)) = (k = 2) := propext (nI_eq (a := k) (b := 2) (by omega) (by omega))
  have q3 : (nI k = (3 : Int32)) = (k = 3) := propext (nI_eq (a := k) (b := 3) (by omega) (by omega))
  have q4 : (nI k = (4 : Int32)) = (k = 4) := propext (nI_eq (a := k) (b := 4) (by omega) (by omega))
  obtain ⟨l, hl, el⟩ : ∃ l, l < 100 ∧ s_say tk (s 0 8) 1 (w_nm s n p) = nI l := by
    unfold s_say
    split
    · exact ⟨0, by omega, nI_0.symm⟩
    · split
      · rw [if_pos rfl]
        exact s_bound_ex _
      · exact ⟨0, by omega, nI_0.symm⟩
  have p10 : nI l + 10 = nI (l + 10) := nI_add l 10
  have d2 : nI l / 2 = nI (l / 2) := nI_div (b := 2) (by omega) (by omega)
  unfold w_hold
  rw [e, nI_clamp (by omega)]
  rw [el] at b1 ⊢
  unfold s_holdK
  by_cases c5 : k = 5
  · refine ⟨f, ?_, KA.rfl'⟩
    unfold f_X11_holdsOf
    rw [if_pos ob11]
    simp only [Option.bind_some, r77, a77, ek, q5, r78, a78, em]
    subst c5
    rw [if_pos rfl, if_neg (by omega), if_neg (by omega), if_pos rfl, em0, i_max_n (by omega)]
  · refine ⟨f1, ?_, b2⟩
    unfold f_X11_holdsOf
    rw [if_pos ob11]
    simp only [Option.bind_some, r77, a77, ek, q5, c5, if_false, b1, ek', q2, q3, q4]
    by_cases c2 : k = 2
    · rw [if_pos c2, if_pos (Or.inl c2), p10, i_max_n (by omega)]
    · rw [if_neg c2]
      by_cases c3 : k = 3
      · rw [if_pos c3, if_neg (by omega), if_pos c3, d2, i_max_n (by omega)]
      · rw [if_neg c3]
        by_cases c4 : k = 4
        · rw [if_pos c4, if_pos (Or.inr c4), p10, i_max_n (by omega)]
        · rw [if_neg c4, if_neg (by omega), if_neg c3, i_max_n (by omega)]
theorem m_mind {f : Nat → Nat → Int32} {r : Nat → Nat → Option Nat} {n : Nat} {tk : Nat → Nat → List (Nat × Int32)} {s : Nat → Nat → Int32} (h : MW f r n tk s) {p : Nat} (hp : p < n) : ∃ f', f_X11_mindsOf SS 76 (nI p) (f, r) = some (w_mind tk s n p, (f', r)) ∧ KA f f' := by
  have hp6 := h.lt hp
  obtain ⟨f1, b1, b2⟩ := m_say h hp (q := 2) (by omega)
  rw [show nI 2 = (2 : Int32) by decide +kernel] at b1
  have h' := h.ka b2
  have hG : GG (f, r) := h.1.1
  obtain ⟨k, hk, e⟩ := (h.2.2.1.1 p hp).2.2.1
  have r77 : ∀ f, e_gR SS (f, r) 11 76 1 = some 77 := fun f => (rf11 (g := (f, r)) hG).1
  have r78 : ∀ f, e_gR SS (f, r) 11 76 2 = some 78 := fun f => (rf11 (g := (f, r)) hG).2.1
  have a77 : ∀ f : Nat → Nat → Int32, e_aI SS (f, r) 0 77 (nI p) = some (f 77 p) := fun f => aI_ok arM.1 hp6 (by omega)
  have a78 : ∀ f : Nat → Nat → Int32, e_aI SS (f, r) 0 78 (nI p) = some (f 78 p) := fun f => aI_ok arM.2.1 hp6 (by omega)
  have ek : f 77 p = nI k := (h.2.1.r (j := 4) (by omega) (by omega) p hp).trans e
  have ek' : f1 77 p = nI k := (h'.2.1.r (j := 4) (by omega) (by omega) p hp).trans e
  have em' : f1 78 p = s 5 p := h'.2.1.r (j := 5) (by omega) (by omega) p hp
  have q1 : (nI k = (1 : Int32)) = (k = 1) := propext (nI_eq (a := k) (b := 1) (by omega) (by omega))
  have q2 : (nI k = (2 : Int32)) = (k = 2) := propext (nI_eq (a := k) (b := 2) (by omega) (by omega))
  have q3 : (nI k = (3 : Int32)) = (k = 3) := propext (nI_eq (a := k) (b := 3) (by omega) (by omega))
  have q4 : (nI k = (4 : Int32)) = (k = 4) := propext (nI_eq (a := k) (b := 4) (by omega) (by omega))
  unfold w_mind
  rw [e, nI_clamp (by omega)]
  unfold s_mindK f_X11_mindsOf
  rw [if_pos ob11]
  by_cases c1 : k = 1
  · refine ⟨f, ?_, KA.rfl'⟩
    simp only [Option.bind_some, r77, a77, ek, q1]
    rw [if_pos c1, if_pos (Or.inl c1)]
  · by_cases c3 : k = 3
    · refine ⟨f, ?_, KA.rfl'⟩
      simp only [Option.bind_some, r77, a77, ek, q1, q3]
      rw [if_neg c1, if_pos c3, if_pos (Or.inr c3)]
    · refine ⟨f1, ?_, b2⟩
      simp only [Option.bind_some, r77, a77, ek, q1, q3, c1, c3, if_false, b1, r78, a78, ek', em', q2, q4, or_self]
      by_cases c2 : k = 2
      · rw [if_pos c2, if_pos c2]
      · rw [if_neg c2, if_neg c2]
        split <;> rfl
