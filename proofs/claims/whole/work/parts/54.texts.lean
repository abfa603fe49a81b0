theorem e_up_at {f : Nat → Nat → Int32} {a k : Nat} {v : Int32} {j : Nat} : e_up f a k v a j = if j = k then v else f a j := by
  unfold e_up
  simp
theorem evT_cons (nm : Nat → Int32) (op : Nat) (v : Int32) (ts : List (Nat × Int32)) (st : List Int32) : evT nm ((op, v) :: ts) st = (if op = 0 then evT nm ts (v :: st)
    else if op = 1 then evT nm ts (nm v.toNatClampNeg :: st)
    else if op ≤ 3 then (match st with
      | x :: st => evT nm ts (t_one op x :: st)
      | [] => none)
    else (match st with
      | y :: x :: st => evT nm ts (t_two op x y :: st)
      | _ => none)) := by
  rw [evT.eq_def]
  rfl
/-- the class's stack run over what is left of a part -/
theorem tx_loop {t : Nat} (ht : t < 6) {a : Nat} (ha : ArA 0 a 6) (han : a ≠ 10 + 5 * t) {part : Nat} (hp : part < 3) {nm : Nat → Int32} : ∀ (ts : List (Nat × Int32)) (i : Nat) (st : List Int32) (g : e_G) (m : Nat), GG g → g.1 (11 + 5 * t) part = nI (i + ts.length) → i + ts.length ≤ 160 →
    (∀ j (h : j < ts.length), g.1 (8 + 5 * t) (i + j) = nI (ts[j]).1 ∧ g.1 (9 + 5 * t) (i + j) = (ts[j]).2 ∧ tokOK ts[j]) → st.length ≤ i → (∀ j (h : j < st.length), g.1 (10 + 5 * t) (st.length - 1 - j) = st[j]) → ts.length < m → (∀ k, k < 6 → g.1 a k = nm k) → ∀ v rest, evT nm ts st = some (v :: rest) →
    ∃ f' : Nat → Nat → Int32, L_X9_value_31 m SS (7 + 5 * t) (nI part) a (nI st.length) (nI i) g = some (v, (f', g.2)) ∧ ∀ b, b ≠ 10 + 5 * t → f' b = g.1 b := by
  intro ts
  induction ts with
  | nil =>
    intro i st g m hG hE hl hT hst hs hm hnm v rest hev
    obtain ⟨m, rfl⟩ : ∃ q, m = q + 1 := ⟨m - 1, by omega⟩
    have hl2 : i ≤ 160 := by simpa using hl
    have hE2 : g.1 (11 + 5 * t) part = nI i := by simpa using hE
    rw [evT] at hev
    cases hev
    rw [L_X9_value_31]
    simp only [(rfT hG t ht).2.2.2, Option.bind_some, aI_ok (arT t ht).2.2.2 hp (by omega : 3 < 2 ^ 31), hE2]
    rw [if_pos (nI_le (Nat.le_refl i) (by omega))]
    have hlen : (v :: rest).length = rest.length + 1 := rfl
    have hlen2 : rest.length + 1 ≤ i := by rw [← hlen]; exact hst
    rw [hlen, if_neg (by rw [← nI_0]; exact nI_ge (by omega) (by omega)), (rfT hG t ht).2.2.1]
    have e1 : nI (rest.length + 1) - 1 = nI rest.length := nI_pred rest.length
    simp only [Option.bind_some, e1]
    rw [aI_ok (arT t ht).2.2.1 (by omega) (by omega)]
    have := hs 0 (by simp)
    simp at this
    exact ⟨g.1, by simp [this], fun _ _ => rfl⟩
  | cons q ts ih =>
    intro i st g m hG hE hl hT hst hs hm hnm v rest hev
    obtain ⟨m, rfl⟩ : ∃ q, m = q + 1 := ⟨m - 1, by omega⟩
    obtain ⟨op, w⟩ := q
    have hl2 : i + (ts.length + 1) ≤ 160 := hl
    have h0 := hT 0 (by simp)
    simp only [List.getElem_cons_zero, Nat.add_zero] at h0
    obtain ⟨p1, p2, p3, p4⟩ := h0
    have hE2 : g.1 (11 + 5 * t) part = nI (i + (ts.length + 1)) := hE
    have hTn : ∀ g' : e_G, (∀ b, b ≠ 10 + 5 * t → g'.1 b = g.1 b) → ∀ j (h : j < ts.length), g'.1 (8 + 5 * t) (i + 1 + j) = nI (ts[j]).1 ∧ g'.1 (9 + 5 * t) (i + 1 + j) = (ts[j]).2 ∧ tokOK ts[j] := by
      intro g' hg j h
      have := hT (j + 1) (by simp; omega)
      rw [hg _ (by omega), hg _ (by omega), show i + 1 + j = i + (j + 1) by omega]
      simpa using this
    have hEn : ∀ g' : e_G, (∀ b, b ≠ 10 + 5 * t → g'.1 b = g.1 b) → g'.1 (11 + 5 * t) part = nI (i + 1 + ts.length) := by
      intro g' hg
      rw [hg _ (by omega), hE2]
      congr 1
      omega
    have go : ∀ (st' : List Int32) (k : Nat) (x : Int32), st'.length ≤ i + 1 → (∀ j (h : j < st'.length), (if st'.length - 1 - j = k then x else g.1 (10 + 5 * t) (st'.length - 1 - j)) = st'[j]) → evT nm ts st' = some (v :: rest) → ∃ f' : Nat → Nat → Int32, L_X9_value_31 m SS (7 + 5 * t) (nI part) a (nI st'.length) (nI (i + 1)) (e_up g.1 (10 + 5 * t) k x, g.2) = some (v, (f', g.2)) ∧ ∀ b, b ≠ 10 + 5 * t → f' b = g.1 b := by
      intro st' k x h1 h2 h3
      have hup : ∀ b, b ≠ 10 + 5 * t → (e_up g.1 (10 + 5 * t) k x) b = g.1 b := fun b hb => e_up_row hb
      obtain ⟨f', k1, k2⟩ := ih (i + 1) st' (e_up g.1 (10 + 5 * t) k x, g.2) m hG (hEn (e_up g.1 (10 + 5 * t) k x, g.2) hup) (by omega) (hTn (e_up g.1 (10 + 5 * t) k x, g.2) hup) h1 (fun j h => by
        show e_up g.1 (10 + 5 * t) k x (10 + 5 * t) (st'.length - 1 - j) = st'[j]
        rw [e_up_at]
        exact h2 j h) (by simp at hm; omega) (fun j hj => by
        show e_up g.1 (10 + 5 * t) k x a j = nm j
        rw [hup a han]
        exact hnm j hj) v rest h3
      exact ⟨f', k1, fun b hb => (k2 b hb).trans (hup b hb)⟩
    rw [L_X9_value_31]
    simp only [(rfT hG t ht).2.2.2, Option.bind_some, aI_ok (arT t ht).2.2.2 hp (by omega : 3 < 2 ^ 31), hE2]
    rw [if_neg (nI_ge (by omega) (by omega)), (rfT hG t ht).1]
    simp only [Option.bind_some, aI_ok (arT t ht).1 (show i < 160 by omega) (by omega : 160 < 2 ^ 31), p1]
    have k1 : (1 : Int32) = nI 1 := by decide +kernel
    have k3 : (3 : Int32) = nI 3 := by decide +kernel
    rw [evT_cons] at hev
    by_cases h01 : op ≤ 1
    · rw [if_neg (by rw [k1]; exact nI_nlt h01 (by omega))]
      have hsl : st.length < 160 := by omega
      have k160 : (160 : Int32) = nI 160 := by decide +kernel
      rw [if_pos (by rw [k160]; exact nI_lt hsl (by omega))]
      simp only [(rfT hG t ht).2.2.1, (rfT hG t ht).2.1, Option.bind_some, aI_ok (arT t ht).2.1 (show i < 160 by omega) (by omega : 160 < 2 ^ 31), p2]
      rw [x9_opd h01 ha p4]
      simp only [Option.bind_some]
      rw [aS_ok (arT t ht).2.2.1 hsl (by omega)]
      simp only [Option.bind_some, J_X9_value_165, nI_1]
      have hx : evT nm ts ((if op = 0 then w else g.1 a w.toNatClampNeg) :: st) = some (v :: rest) := by
        by_cases h0 : op = 0
        · rw [if_pos h0] at hev ⊢
          exact hev
        · have h1 : op = 1 := by omega
          rw [if_neg h0, if_pos h1] at hev
          rw [if_neg h0]
          obtain ⟨k, hk, rfl⟩ := p4 h1
          rw [nI_clamp (by omega)] at hev ⊢
          rw [hnm k hk]
          exact hev
      generalize (if op = 0 then w else g.1 a w.toNatClampNeg) = x at hx ⊢
      exact go (x :: st) st.length x (by simp; omega) (fun j h => by
        cases j with
        | zero => simp
        | succ j =>
          have hj : j < st.length := by simpa using h
          have e1 : (x :: st).length - 1 - (j + 1) = st.length - 1 - j := by simp; omega
          rw [e1, if_neg (by omega)]
          exact hs j hj) hx
    · have n0 : ¬ op = 0 := by omega
      have n1 : ¬ op = 1 := by omega
      rw [if_neg n0, if_neg n1] at hev
      rw [if_pos (by rw [k1]; exact nI_lt (by omega) (by omega))]
      by_cases h23 : op ≤ 3
      · rw [if_pos h23] at hev
        rw [if_neg (by rw [k3]; exact nI_nlt h23 (by omega))]
        match st, hst, hs, hev with
        | x :: st, hst, hs, hev =>
          have hst2 : st.length + 1 ≤ i := hst
          rw [if_pos (by rw [k1]; exact nI_le (by simp) (by simp; omega))]
          have e1 : nI (x :: st).length - 1 = nI st.length := nI_pred st.length
          have hx0 := hs 0 (by simp)
          simp at hx0
          simp only [(rfT hG t ht).2.2.1, Option.bind_some, e1, aI_ok (arT t ht).2.2.1 (show st.length < 160 by omega) (by omega : 160 < 2 ^ 31), hx0]
          rw [x9_one (by omega) h23]
          simp only [Option.bind_some]
          rw [aS_ok (arT t ht).2.2.1 (by omega) (by omega)]
          simp only [Option.bind_some, J_X9_value_165, nI_1]
          exact go (t_one op x :: st) st.length _ (by simp; omega) (fun j h => by
            cases j with
            | zero => simp
            | succ j =>
              have hj : j < st.length := by simpa using h
              have e1 : (t_one op x :: st).length - 1 - (j + 1) = st.length - 1 - j := by simp; omega
              rw [e1, if_neg (by omega)]
              have := hs (j + 1) (by simp; omega)
              have e2 : (x :: st).length - 1 - (j + 1) = st.length - 1 - j := by simp; omega
              rw [e2] at this
              simpa using this) hev
      · rw [if_neg h23] at hev
        rw [if_pos (by rw [k3]; exact nI_lt (by omega) (by omega))]
        match st, hst, hs, hev with
        | y :: x :: st, hst, hs, hev =>
          have hst2 : st.length + 2 ≤ i := hst
          have k2 : (2 : Int32) = nI 2 := by decide +kernel
          rw [if_pos (by rw [k2]; exact nI_le (by simp) (by simp; omega))]
          have e1 : nI (y :: x :: st).length + -1 = nI (st.length + 1) := pk_m1 (st.length + 1)
          have e2 : nI (st.length + 1) - 1 = nI st.length := nI_pred st.length
          have hy := hs 0 (by simp)
          have hx := hs 1 (by simp)
          simp at hy hx
          simp only [(rfT hG t ht).2.2.1, Option.bind_some, e1, e2, aI_ok (arT t ht).2.2.1 (show st.length < 160 by omega) (by omega : 160 < 2 ^ 31), aI_ok (arT t ht).2.2.1 (show st.length + 1 < 160 by omega) (by omega : 160 < 2 ^ 31), hx, hy]
          rw [x9_two (by omega) p3]
          simp only [Option.bind_some]
          rw [aS_ok (arT t ht).2.2.1 (by omega) (by omega)]
          simp only [Option.bind_some, J_X9_value_165, nI_1]
          exact go (t_two op x y :: st) st.length _ (by simp; omega) (fun j h => by
            cases j with
            | zero => simp
            | succ j =>
              have hj : j < st.length := by simpa using h
              have e1 : (t_two op x y :: st).length - 1 - (j + 1) = st.length - 1 - j := by simp; omega
              rw [e1, if_neg (by omega)]
              have := hs (j + 2) (by simp; omega)
              have e2 : (y :: x :: st).length - 1 - (j + 2) = st.length - 1 - j := by simp; omega
              rw [e2] at this
              simpa using this) hev
