/-- a loop that may end early, beside a reckoning of pure words -/
theorem loopX {R σ τ ρ : Type} {L : Nat → Int32 → σ → Option R} {n : Nat} {I : Nat → τ → σ → Prop} {F : Nat → τ → Sum ρ τ} {fin : τ → ρ} {P : ρ → R → Prop}
    (hend : ∀ m t s, I n t s → ∃ q, L (m + 1) (nI n) s = some q ∧ P (fin t) q)
    (hstep : ∀ m i t s, 0 < m → i < n → I i t s → (∃ v q, F i t = .inl v ∧ L (m + 1) (nI i) s = some q ∧ P v q) ∨ (∃ t' s', F i t = .inr t' ∧ L (m + 1) (nI i) s = L m (nI (i + 1)) s' ∧ I (i + 1) t' s')) :
    ∀ k i m t s, i + k = n → k < m → I i t s → ∃ q, L m (nI i) s = some q ∧ P (itE F fin k i t) q := by
  intro k
  induction k with
  | zero =>
    intro i m t s hi hm hI
    obtain ⟨m, rfl⟩ : ∃ q, m = q + 1 := ⟨m - 1, by omega⟩
    have : i = n := by omega
    subst this
    exact hend m t s hI
  | succ k ih =>
    intro i m t s hi hm hI
    obtain ⟨m, rfl⟩ : ∃ q, m = q + 1 := ⟨m - 1, by omega⟩
    rcases hstep m i t s (by omega) (by omega) hI with ⟨v, q, h1, h2, h3⟩ | ⟨t', s', h1, h2, h3⟩
    · exact ⟨q, h2, by rw [itE, h1]; exact h3⟩
    · rw [h2, itE, h1]
      exact ih (i + 1) m t' s' (by omega) (by omega) h3
/-- a loop to its end, beside a reckoning of pure words -/
theorem loopY {R σ τ : Type} {L : Nat → Int32 → σ → Option R} {n : Nat} {I : Nat → τ → σ → Prop} {F : Nat → τ → τ} {P : τ → R → Prop}
    (hend : ∀ m t s, I n t s → ∃ q, L (m + 1) (nI n) s = some q ∧ P t q)
    (hstep : ∀ m i t s, i < n → I i t s → ∃ s', L (m + 1) (nI i) s = L m (nI (i + 1)) s' ∧ I (i + 1) (F i t) s') :
    ∀ k i m t s, i + k = n → k < m → I i t s → ∃ q, L m (nI i) s = some q ∧ P (itF F k i t) q := by
  intro k
  induction k with
  | zero =>
    intro i m t s hi hm hI
    obtain ⟨m, rfl⟩ : ∃ q, m = q + 1 := ⟨m - 1, by omega⟩
    have : i = n := by omega
    subst this
    exact hend m t s hI
  | succ k ih =>
    intro i m t s hi hm hI
    obtain ⟨m, rfl⟩ : ∃ q, m = q + 1 := ⟨m - 1, by omega⟩
    obtain ⟨s', h2, h3⟩ := hstep m i t s (by omega) hI
    rw [h2, itF]
    exact ih (i + 1) m _ s' (by omega) (by omega) h3
/-! the reference's street, its words -/
theorem mw_who {f : Nat → Nat → Int32} {r : Nat → Nat → Option Nat} {n : Nat} {tk : Nat → Nat → List (Nat × Int32)} {s : Nat → Nat → Int32} (h : MW f r n tk s) (w : Int32) : f_X11_whoAt SS 76 w (f, r) = some (s_who (s 1) n w, (f, r)) := by
  rw [m_who h.1, s_who_c (W := m_W (f, r)) (h.2.1.r (j := 1) (by omega) (by omega))]
theorem mw_meets {f : Nat → Nat → Int32} {r : Nat → Nat → Option Nat} {n : Nat} {tk : Nat → Nat → List (Nat × Int32)} {s : Nat → Nat → Int32} (h : MW f r n tk s) : f_X11_metTwos SS 76 (f, r) = some (s_meets (s 1) (s 2) n, (f, r)) := by
  rw [m_meets h.1, s_meets2_c (W := m_W (f, r)) (L := m_L (f, r)) h.1.2.2 (h.2.1.r (j := 1) (by omega) (by omega)) (h.2.1.r (j := 2) (by omega) (by omega)), s_meets_eq h.1.2.2 h.2.2.1]
theorem mw_cross {f : Nat → Nat → Int32} {r : Nat → Nat → Option Nat} {n : Nat} {tk : Nat → Nat → List (Nat × Int32)} {s : Nat → Nat → Int32} (h : MW f r n tk s) : f_X11_crossing SS 76 (f, r) = some (s_cross (s 1) (s 2) n, (f, r)) := by
  rw [m_cross h.1, s_cross2_c (W := m_W (f, r)) (L := m_L (f, r)) (h.2.1.r (j := 1) (by omega) (by omega)) (h.2.1.r (j := 2) (by omega) (by omega)), s_cross_eq h.2.2.1]
theorem mw_most {f : Nat → Nat → Int32} {r : Nat → Nat → Option Nat} {n : Nat} {tk : Nat → Nat → List (Nat × Int32)} {s : Nat → Nat → Int32} (h : MW f r n tk s) : f_X11_mostLooked SS 76 (f, r) = some ((s_most (s 2) n).2, (f, r)) := by
  rw [m_most h.1, s_most_c (L := m_L (f, r)) (h.2.1.r (j := 2) (by omega) (by omega))]
theorem mw_lookers {f : Nat → Nat → Int32} {r : Nat → Nat → Option Nat} {n : Nat} {tk : Nat → Nat → List (Nat × Int32)} {s : Nat → Nat → Int32} (h : MW f r n tk s) (w : Int32) : f_X11_lookersOf SS 76 w (f, r) = some (s_lookers (s 2) n w, (f, r)) := by
  rw [m_lookers h.1, s_lookers_c (W := m_L (f, r)) (h.2.1.r (j := 2) (by omega) (by omega))]
theorem mw_unseen {f : Nat → Nat → Int32} {r : Nat → Nat → Option Nat} {n : Nat} {tk : Nat → Nat → List (Nat × Int32)} {s : Nat → Nat → Int32} (h : MW f r n tk s) : f_X11_unseen SS 76 (f, r) = some (s_unseen (s 1) (s 2) n, (f, r)) := by
  rw [m_unseen h.1, s_unseen_c (W := m_W (f, r)) (L := m_L (f, r)) (h.2.1.r (j := 1) (by omega) (by omega)) (h.2.1.r (j := 2) (by omega) (by omega))]
theorem mw_bits {f : Nat → Nat → Int32} {r : Nat → Nat → Option Nat} {n : Nat} {tk : Nat → Nat → List (Nat × Int32)} {s : Nat → Nat → Int32} (h : MW f r n tk s) : f_X11_keptSet SS 76 (f, r) = some (s_bits (s 6) n, (f, r)) := by
  have e : ∀ p, p < n → m_K (f, r) p = s 6 p := h.2.1.r (j := 6) (by omega) (by omega)
  rw [m_bits h.1 (fun p hp => by rw [e p hp]; exact (h.2.2.1.1 p hp).2.1), s_bits_c e]
theorem mw_sum {f : Nat → Nat → Int32} {r : Nat → Nat → Option Nat} {n : Nat} {tk : Nat → Nat → List (Nat × Int32)} {s : Nat → Nat → Int32} (h : MW f r n tk s) : f_X11_leanAll SS 76 (f, r) = some (s_sum (s 3) n, (f, r)) := by
  rw [m_sum h.1, s_sum_c (K := m_N (f, r)) (h.2.1.r (j := 3) (by omega) (by omega))]
theorem MW.row {f : Nat → Nat → Int32} {r : Nat → Nat → Option Nat} {n : Nat} {tk : Nat → Nat → List (Nat × Int32)} {s : Nat → Nat → Int32} (h : MW f r n tk s) {j : Nat} (h1 : 1 ≤ j) (h2 : j ≤ 6) : ∀ p, p < n → m_s f j p = s j p := h.2.1.r h1 h2
/-! is one, and at which number -/
def s_has (n : Nat) (p : Int32) : Int32 := if p < 0 then 0 else if nI n ≤ p then 0 else 1
theorem s_has_or {n : Nat} (h6 : n ≤ 6) (p : Int32) : s_has n p = 0 ∨ ∃ k, k < n ∧ p = nI k ∧ s_has n p = 1 := by
  unfold s_has
  by_cases a : p < 0
  · exact Or.inl (if_pos a)
  · by_cases b : nI n ≤ p
    · exact Or.inl (by rw [if_neg a, if_pos b])
    · obtain ⟨t, ht, e⟩ := nI_ex (x := p) (n := n) (by omega) a (by rcases Int32.lt_or_le p (nI n) with z | z; exact z; exact absurd z b)
      exact Or.inr ⟨t, ht, e, by rw [if_neg a, if_neg b]⟩
theorem s_has_k {n k : Nat} (h6 : n ≤ 6) (hk : k < n) : s_has n (nI k) = 1 := by
  unfold s_has
  rw [if_neg (nI_pos (by omega)), if_neg (nI_ge hk (by omega))]
theorem s_in_has {n : Nat} (h6 : n ≤ 6) (p : Int32) : s_in p 0 (nI n - 1) = s_has n p := by
  unfold s_in s_has
  by_cases a : p < 0
  · rw [if_pos a, if_pos a]
  · rw [if_neg a, if_neg a]
    have key : ∀ n, n ≤ 6 → (nI n - 1).toInt = (n : Int) - 1 := by decide +kernel
    have e1 := key n h6
    have e2 : (nI n).toInt = n := nI_toInt (by omega)
    by_cases b : nI n ≤ p
    · have b' := Int32.le_iff_toInt_le.mp b
      rw [if_pos b, if_pos (Int32.lt_iff_toInt_lt.mpr (by omega))]
    · have b' : ¬ (nI n).toInt ≤ p.toInt := fun z => b (Int32.le_iff_toInt_le.mpr z)
      rw [if_neg b, if_neg (fun z => by have := Int32.lt_iff_toInt_lt.mp z; omega)]
theorem sq_has {f : Nat → Nat → Int32} {r : Nat → Nat → Option Nat} {o n : Nat} {tk : Nat → Nat → List (Nat × Int32)} {s : Nat → Nat → Int32} (h : SQ f r o n tk s) (p : Int32) : f_X7_has SS o p (f, r) = some (s_has n p, (f, r)) := cs_has h.cs p
theorem mw_one {f : Nat → Nat → Int32} {r : Nat → Nat → Option Nat} {n : Nat} {tk : Nat → Nat → List (Nat × Int32)} {s : Nat → Nat → Int32} (h : MW f r n tk s) (p : Int32) : f_X11_isOne SS 76 p (f, r) = some (s_has n p, (f, r)) := by
  rw [m_one h.1, s_in_has h.1.2.2]
/-! windows -/
theorem s_opp_in (a b : Int32) : (if s_in a 0 19 = 0 then 0 else if s_in b 0 19 = 0 then 0 else if a / 10 = b / 10 then (0 : Int32) else 1) = s_opp a b := by
  have k19 : (19 : Int32).toInt = 19 := by decide +kernel
  have k20 : (20 : Int32).toInt = 20 := by decide +kernel
  have e : ∀ x : Int32, (19 < x) = ((20 : Int32) ≤ x) := fun x => propext ⟨fun z => Int32.le_iff_toInt_le.mpr (by have := Int32.lt_iff_toInt_lt.mp z; omega), fun z => Int32.lt_iff_toInt_lt.mpr (by have := Int32.le_iff_toInt_le.mp z; omega)⟩
  unfold s_in s_opp
  simp only [e]
  by_cases h1 : a < 0
  · simp [h1]
  · by_cases h2 : (20 : Int32) ≤ a
    · simp [h1, h2]
    · by_cases h3 : b < 0
      · simp [h1, h2, h3]
      · by_cases h4 : (20 : Int32) ≤ b
        · simp [h1, h2, h3, h4]
        · simp [h1, h2, h3, h4]
theorem m_acr (a b : Int32) (g : e_G) : f_X11_areAcross SS a b g = some (s_opp a b, g) := by rw [m_across, s_opp_in]
theorem mw_mayBe {f : Nat → Nat → Int32} {r : Nat → Nat → Option Nat} {n : Nat} {tk : Nat → Nat → List (Nat × Int32)} {s : Nat → Nat → Int32} (h : MW f r n tk s) {p : Nat} (hp : p < n) (w : Int32) : f_X11_mayBeAt SS 76 (nI p) w (f, r) = some (s_mayBe (s 1) n p w, (f, r)) := by
  have hp6 := h.lt hp
  have hw := mw_who h
  have hG : GG (f, r) := h.1.1
  have e1 : m_W (f, r) p = s 1 p := h.2.1.r (j := 1) (by omega) (by omega) p hp
  have k19 : (19 : Int32).toInt = 19 := by decide +kernel
  have k20 : (20 : Int32).toInt = 20 := by decide +kernel
  have e : (19 < w) = ((20 : Int32) ≤ w) := propext ⟨fun z => Int32.le_iff_toInt_le.mpr (by have := Int32.lt_iff_toInt_lt.mp z; omega), fun z => Int32.lt_iff_toInt_lt.mpr (by have := Int32.le_iff_toInt_le.mp z; omega)⟩
  unfold f_X11_mayBeAt
  rw [if_pos ob11]
  simp only [m_in, Option.bind_some, (rf11 hG).2.2.1, m_aW (f, r) hp6, e1, J_X11_mayBeAt_32, J_X11_mayBeAt_33, J_X11_mayBeAt_59, hw]
  unfold s_in s_mayBe
  simp only [e]
  by_cases h1 : w < 0
  · simp [h1]
  · by_cases h2 : (20 : Int32) ≤ w
    · simp [h1, h2]
    · by_cases h3 : w / 10 = s 1 p / 10
      · rcases s_who_or (s 1) n w with ⟨q1, q2⟩ | ⟨j, q1, q2, q3, -⟩
        · rw [q1]
          by_cases h4 : w = s 1 p
          · subst h4; simp [h1, h2]
          · simp [h1, h2, h3, h4]
        · rw [q2]
          have hn := h.1.2.2
          have ne := nI_ne_m1 (j := j) (by omega)
          by_cases h4 : w = s 1 p
          · have : j = p := h.2.2.1.2 j p q1 hp (q3.trans h4)
            subst this
            subst h4
            simp [h1, h2]
          · have : ¬ nI j = nI p := fun z => h4 (by
              have := nI_inj (by omega) (by omega) z
              subst this
              exact q3.symm)
            simp [h1, h2, h3, h4, ne, this]
      · simp [h1, h2, h3]
