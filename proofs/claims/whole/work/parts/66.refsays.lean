/-- a token that the reference's code tells: its number is small -/
def tokR (q : Nat × Int32) : Prop := tokOK q ∧ (q.1 = 0 → ∃ k, k ≤ 99999 ∧ q.2 = nI k)
theorem m_cdb : ∀ op, op ≤ 10 → 11 ≤ m_cd op ∧ m_cd op ≤ 19 := by decide +kernel
theorem m_loop {t part : Nat} (ht : t < 6) (hp : part < 3) {nm : Nat → Int32} : ∀ (ts : List (Nat × Int32)) (i : Nat) (st : List Int32) (g : e_G) (m : Nat), GG g → g.1 76 10 = nI t → g.1 82 (4 * t + part + 1) = nI (i + ts.length) → i + ts.length ≤ 200 →
    (∀ j (h : j < ts.length), g.1 81 (200 * t + (i + j)) = m_enc ts[j] ∧ tokR ts[j]) → st.length ≤ i → (∀ j (h : j < st.length), g.1 91 (st.length - 1 - j) = st[j]) → ts.length < m → (∀ k, k < 6 → g.1 92 k = nm k) → ∀ v, evT nm ts st = some [v] →
    ∃ f' : Nat → Nat → Int32, L_X11_says_16 m SS 76 (nI part) (nI st.length) (nI i) g = some (v, (f', g.2)) ∧ ∀ b, b ≠ 91 → f' b = g.1 b := by
  have A91 : ArA 0 91 200 := by unfold ArA; decide +kernel
  have A92 : ArA 0 92 6 := by unfold ArA; decide +kernel
  have A82 : ArA 0 82 24 := by unfold ArA; decide +kernel
  have A81 : ArA 0 81 1200 := by unfold ArA; decide +kernel
  have k1 : (1 : Int32) = nI 1 := by decide +kernel
  have k11 : (11 : Int32) = nI 11 := by decide +kernel
  have k13 : (13 : Int32) = nI 13 := by decide +kernel
  have k19 : (19 : Int32) = nI 19 := by decide +kernel
  have kb : (100000 : Int32) = nI 100000 := by decide +kernel
  have ix1 : (4 : Int32) * nI t + nI part + 1 = nI (4 * t + part + 1) := by rw [nI_4, nI_add, k1, nI_add]
  have ix2 : ∀ i, (200 : Int32) * nI t + nI i = nI (200 * t + i) := by
    intro i
    have k200 : (200 : Int32) = nI 200 := by decide +kernel
    rw [k200, show nI 200 * nI t = nI (200 * t) from (Int32.ofNat_mul 200 t).symm, nI_add]
  intro ts
  induction ts with
  | nil =>
    intro i st g m hG hT hE hl hC hst hs hm hnm v hev
    obtain ⟨m, rfl⟩ : ∃ q, m = q + 1 := ⟨m - 1, by omega⟩
    have hE2 : g.1 82 (4 * t + part + 1) = nI i := by simpa using hE
    have hl2 : i ≤ 200 := by simpa using hl
    rw [evT] at hev
    cases hev
    have h0 := hs 0 (by simp)
    simp at h0
    have k0 : (0 : Int32) = nI 0 := nI_0.symm
    rw [L_X11_says_16]
    rw [(rf11 hG).2.2.2.2.2.1, Option.bind_some, gI_ok ob11, Option.bind_some, hT, ix1, aI_ok A82 (by omega) (by omega), Option.bind_some, hE2, if_pos (nI_le (Nat.le_refl i) (by omega))]
    rw [(rf11 hG).2.2.2.2.2.2.2.2.2.2.2.2.2.2.1, Option.bind_some, k0, aI_ok A91 (by omega) (by omega), Option.bind_some]
    exact ⟨g.1, by rw [h0], fun _ _ => rfl⟩
  | cons q ts ih =>
    intro i st g m hG hT hE hl hC hst hs hm hnm v hev
    obtain ⟨m, rfl⟩ : ∃ q, m = q + 1 := ⟨m - 1, by omega⟩
    obtain ⟨op, w⟩ := q
    have hl2 : i + (ts.length + 1) ≤ 200 := hl
    have h0 := hC 0 (by simp)
    simp only [List.getElem_cons_zero, Nat.add_zero] at h0
    obtain ⟨p1, ⟨p3, p4⟩, p5⟩ := h0
    have hE2 : g.1 82 (4 * t + part + 1) = nI (i + (ts.length + 1)) := hE
    have go : ∀ (st' : List Int32) (k : Nat) (x : Int32), st'.length ≤ i + 1 → (∀ j (h : j < st'.length), (if st'.length - 1 - j = k then x else g.1 91 (st'.length - 1 - j)) = st'[j]) → evT nm ts st' = some [v] → ∃ f' : Nat → Nat → Int32, L_X11_says_16 m SS 76 (nI part) (nI st'.length) (nI (i + 1)) (e_up g.1 91 k x, g.2) = some (v, (f', g.2)) ∧ ∀ b, b ≠ 91 → f' b = g.1 b := by
      intro st' k x h1 h2 h3
      have hup : ∀ b, b ≠ 91 → (e_up g.1 91 k x) b = g.1 b := fun b hb => e_up_row hb
      obtain ⟨f', k1, k2⟩ := ih (i + 1) st' (e_up g.1 91 k x, g.2) m hG (by show e_up g.1 91 k x 76 10 = _; rw [hup 76 (by omega)]; exact hT) (by
          show e_up g.1 91 k x 82 _ = _
          rw [hup 82 (by omega), hE2]
          congr 1
          omega) (by omega) (fun j h => by
          have := hC (j + 1) (by simp; omega)
          show e_up g.1 91 k x 81 _ = _ ∧ _
          rw [hup 81 (by omega), show i + 1 + j = i + (j + 1) by omega]
          simpa using this) h1 (fun j h => by
          show e_up g.1 91 k x 91 (st'.length - 1 - j) = st'[j]
          rw [e_up_at]
          exact h2 j h) (by simp at hm; omega) (fun j hj => by
          show e_up g.1 91 k x 92 j = nm j
          rw [hup 92 (by omega)]
          exact hnm j hj) v h3
      exact ⟨f', k1, fun b hb => (k2 b hb).trans (hup b hb)⟩
    rw [L_X11_says_16]
    rw [(rf11 hG).2.2.2.2.2.1, Option.bind_some, gI_ok ob11, Option.bind_some, hT, ix1, aI_ok A82 (by omega) (by omega), Option.bind_some, hE2, if_neg (nI_ge (by omega) (by omega))]
    rw [(rf11 hG).2.2.2.2.1, Option.bind_some, Option.bind_some, ix2, aI_ok A81 (by omega) (by omega), Option.bind_some, p1]
    rw [evT_cons] at hev
    have push : ∀ x, evT nm ts (x :: st) = some [v] → ∃ f' : Nat → Nat → Int32, L_X11_says_16 m SS 76 (nI part) (nI (st.length + 1)) (nI (i + 1)) (e_up g.1 91 st.length x, g.2) = some (v, (f', g.2)) ∧ ∀ b, b ≠ 91 → f' b = g.1 b := by
      intro x hx
      exact go (x :: st) st.length x (by simp; omega) (fun j h => by
        cases j with
        | zero => simp
        | succ j =>
          have hj : j < st.length := by simpa using h
          have e1 : (x :: st).length - 1 - (j + 1) = st.length - 1 - j := by simp; omega
          rw [e1, if_neg (by omega)]
          exact hs j hj) hx
    by_cases o0 : op = 0
    · rw [if_pos o0] at hev
      obtain ⟨k, hk, rfl⟩ := p5 o0
      have ew : m_enc (op, nI k) = nI (k + 100000) := by
        unfold m_enc
        rw [if_pos o0, kb, nI_add]
      have es : nI (k + 100000) - 100000 = nI k := by
        have : nI (k + 100000) = nI k + 100000 := by rw [kb, nI_add]
        rw [this, Int32.add_sub_cancel]
      rw [ew, if_pos (by rw [kb]; exact nI_le (by omega) (by omega)), J_X11_says_66, (rf11 hG).2.2.2.2.2.2.2.2.2.2.2.2.2.2.1, Option.bind_some, if_pos (by rw [k11]; exact nI_le (by omega) (by omega)), J_X11_says_93, es, aS_ok A91 (by omega) (by omega), Option.bind_some, J_X11_says_191, nI_1, nI_1]
      exact push _ hev
    · rw [if_neg o0] at hev
      by_cases o1 : op = 1
      · rw [if_pos o1] at hev
        obtain ⟨k, hk, rfl⟩ := p4 o1
        have ew : m_enc (op, nI k) = nI k := by
          unfold m_enc
          rw [if_neg o0, if_pos o1]
        rw [nI_clamp (by omega)] at hev
        rw [ew, if_neg (by rw [kb]; exact nI_ge (by omega) (by omega)), if_neg (by rw [k11]; exact nI_ge (by omega) (by omega)), J_X11_says_66, (rf11 hG).2.2.2.2.2.2.2.2.2.2.2.2.2.2.1, Option.bind_some, if_neg (by rw [k11]; exact nI_ge (by omega) (by omega)), (rf11 hG).2.2.2.2.2.2.2.2.2.2.2.2.2.2.2.1, Option.bind_some, aI_ok A92 hk (by omega), Option.bind_some, hnm k hk, J_X11_says_93, aS_ok A91 (by omega) (by omega), Option.bind_some, J_X11_says_191, nI_1, nI_1]
        exact push _ hev
      · rw [if_neg o1] at hev
        have ew : m_enc (op, w) = nI (m_cd op) := by
          unfold m_enc
          rw [if_neg o0, if_neg o1]
        obtain ⟨c1, c2⟩ := m_cdb op p3
        rw [ew, if_neg (by rw [kb]; exact nI_ge (by omega) (by omega)), if_pos (by rw [k11]; exact nI_le (by omega) (by omega))]
        have is13 : nI (m_cd op) = 13 ↔ op = 3 := by
          rw [k13, nI_eq (by omega) (by omega)]
          have : ∀ op, op ≤ 10 → (m_cd op = 13 ↔ op = 3) := by decide +kernel
          exact this op p3
        have is19 : nI (m_cd op) = 19 ↔ op = 2 := by
          rw [k19, nI_eq (by omega) (by omega)]
          have : ∀ op, op ≤ 10 → (m_cd op = 19 ↔ op = 2) := by decide +kernel
          exact this op p3
        by_cases h23 : op ≤ 3
        · rw [if_pos h23] at hev
          match st, hst, hs, hev with
          | x :: st, hst, hs, hev =>
            have hst2 : st.length + 1 ≤ i := hst
            have e1 : nI (x :: st).length - 1 = nI st.length := nI_pred st.length
            have hx0 := hs 0 (by simp)
            simp at hx0
            have fin : ∃ f' : Nat → Nat → Int32, L_X11_says_16 m SS 76 (nI part) (nI (x :: st).length) (nI (i + 1)) (e_up g.1 91 st.length (t_one op x), g.2) = some (v, (f', g.2)) ∧ ∀ b, b ≠ 91 → f' b = g.1 b := go (t_one op x :: st) st.length _ (by simp; omega) (fun j h => by
              cases j with
              | zero => simp
              | succ j =>
                have hj : j < st.length := by simpa using h
                have e1 : (t_one op x :: st).length - 1 - (j + 1) = st.length - 1 - j := by simp; omega
                rw [e1, if_neg (by omega)]
                have := hs (j + 1) (by simp; omega)
                have e2 : (x :: st).length - 1 - (j + 1) = st.length - 1 - j := by simp; omega
                rw [e2] at this
                simpa using this) hev
            by_cases o3 : op = 3
            · rw [if_pos (is13.mpr o3), (rf11 hG).2.2.2.2.2.2.2.2.2.2.2.2.2.2.1, Option.bind_some, Option.bind_some, e1, aI_ok A91 (by omega) (by omega), Option.bind_some, hx0]
              subst o3
              by_cases x0 : x = 0
              · rw [if_pos x0, J_X11_says_130, aS_ok A91 (by omega) (by omega), Option.bind_some, J_X11_says_191, nI_1]
                have e : t_one 3 x = 1 := by subst x0; decide +kernel
                rw [e] at fin
                exact fin
              · rw [if_neg x0, J_X11_says_130, aS_ok A91 (by omega) (by omega), Option.bind_some, J_X11_says_191, nI_1]
                have e : t_one 3 x = 0 := by unfold t_one; rw [if_neg (by omega), if_neg x0]
                rw [e] at fin
                exact fin
            · have o2 : op = 2 := by omega
              rw [if_neg (fun z => o3 (is13.mp z)), if_pos (is19.mpr o2), (rf11 hG).2.2.2.2.2.2.2.2.2.2.2.2.2.2.1, Option.bind_some, Option.bind_some, e1, aI_ok A91 (by omega) (by omega), Option.bind_some, hx0, aS_ok A91 (by omega) (by omega), Option.bind_some, J_X11_says_191, nI_1]
              subst o2
              have e : t_one 2 x = -x := by unfold t_one; rw [if_pos rfl]
              rw [e] at fin
              exact fin
        · rw [if_neg h23] at hev
          match st, hst, hs, hev with
          | y :: x :: st, hst, hs, hev =>
            have hst2 : st.length + 2 ≤ i := hst
            have e1 : nI (y :: x :: st).length + -1 = nI (st.length + 1) := pk_m1 (st.length + 1)
            have e2 : nI (st.length + 1) - 1 = nI st.length := nI_pred st.length
            have hy := hs 0 (by simp)
            have hx := hs 1 (by simp)
            simp at hy hx
            rw [if_neg (fun z => h23 (by have := is13.mp z; omega)), if_neg (fun z => h23 (by have := is19.mp z; omega)), (rf11 hG).2.2.2.2.2.2.2.2.2.2.2.2.2.2.1, Option.bind_some, Option.bind_some, e1, e2, aI_ok A91 (by omega) (by omega), Option.bind_some, Option.bind_some, aI_ok A91 (by omega) (by omega), Option.bind_some, hx, hy, x11_two (by omega) p3, Option.bind_some, aS_ok A91 (by omega) (by omega), Option.bind_some, J_X11_says_191, nI_1]
            exact go (t_two op x y :: st) st.length _ (by simp; omega) (fun j h => by
              cases j with
              | zero => simp
              | succ j =>
                have hj : j < st.length := by simpa using h
                have e1 : (t_two op x y :: st).length - 1 - (j + 1) = st.length - 1 - j := by simp; omega
                rw [e1, if_neg (by omega)]
                have := hs (j + 2) (by simp; omega)
                have e2 : (y :: x :: st).length - 1 - (j + 2) = st.length - 1 - j := by simp; omega
                rw [e2] at this
                simpa using this) hev
