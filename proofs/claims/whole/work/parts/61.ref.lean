/-! the reference's street -/
theorem nI_4 (i : Nat) : (4 : Int32) * nI i = nI (4 * i) := by
  have k4 : (4 : Int32) = nI 4 := by decide +kernel
  rw [k4]
  exact (Int32.ofNat_mul 4 i).symm
theorem nI_4j (i : Nat) {z : Int32} {j : Nat} (hz : z = nI j) : (4 : Int32) * nI i + z = nI (4 * i + j) := by rw [nI_4, hz, nI_add]
def MS (g : e_G) (n : Nat) : Prop := GG g ∧ g.1 76 0 = nI n ∧ n ≤ 6
def m_W (g : e_G) (p : Nat) : Int32 := g.1 79 (4 * p)
def m_L (g : e_G) (p : Nat) : Int32 := g.1 79 (4 * p + 1)
def m_N (g : e_G) (p : Nat) : Int32 := g.1 79 (4 * p + 2)
def m_K (g : e_G) (p : Nat) : Int32 := g.1 79 (4 * p + 3)
theorem m_aW (g : e_G) {p : Nat} (hp : p < 6) : e_aI SS g 0 79 ((4 : Int32) * nI p) = some (m_W g p) := by rw [nI_4]; exact aI_ok arM.2.2.1 (by omega) (by omega)
theorem m_aL (g : e_G) {p : Nat} (hp : p < 6) : e_aI SS g 0 79 ((4 : Int32) * nI p + 1) = some (m_L g p) := by rw [nI_4j p (j := 1) (by decide +kernel)]; exact aI_ok arM.2.2.1 (by omega) (by omega)
theorem m_aN (g : e_G) {p : Nat} (hp : p < 6) : e_aI SS g 0 79 ((4 : Int32) * nI p + 2) = some (m_N g p) := by rw [nI_4j p (j := 2) (by decide +kernel)]; exact aI_ok arM.2.2.1 (by omega) (by omega)
theorem m_aK (g : e_G) {p : Nat} (hp : p < 6) : e_aI SS g 0 79 ((4 : Int32) * nI p + 3) = some (m_K g p) := by rw [nI_4j p (j := 3) (by decide +kernel)]; exact aI_ok arM.2.2.1 (by omega) (by omega)
theorem m_who {g : e_G} {n : Nat} (h : MS g n) (w : Int32) : f_X11_whoAt SS 76 w g = some (s_who (m_W g) n w, g) := by
  obtain ⟨hG, hn, h6⟩ := h
  unfold f_X11_whoAt
  rw [if_pos ob11]
  have key := loopE (L := fun m i (_ : Unit) => (L_X11_whoAt_2 m SS 76 w i g)) (n := n) (F := fun i _ => if m_W g i = w then .inl (nI i, g) else .inr ()) (fin := fun _ => ((-1 : Int32), g)) (I := fun _ _ => True)
    (fun m s _ => by
      show L_X11_whoAt_2 (m + 1) SS 76 w (nI n) g = _
      rw [L_X11_whoAt_2]
      simp only [gI_ok ob11, Option.bind_some, hn]
      rw [if_pos (nI_le (Nat.le_refl n) (by omega))])
    (fun m i s hi _ => by
      have e : L_X11_whoAt_2 (m + 1) SS 76 w (nI i) g = if m_W g i = w then some (nI i, g) else L_X11_whoAt_2 m SS 76 w (nI (i + 1)) g := by
        rw [L_X11_whoAt_2]
        simp only [gI_ok ob11, Option.bind_some, hn, (rf11 hG).2.2.1]
        rw [if_neg (nI_ge hi (by omega)), m_aW g (by omega)]
        simp only [Option.bind_some, nI_1]
      by_cases q : m_W g i = w
      · exact Or.inl ⟨(nI i, g), by simp [q], by show L_X11_whoAt_2 (m + 1) SS 76 w (nI i) g = _; rw [e, if_pos q]⟩
      · exact Or.inr ⟨(), by simp [q], by show L_X11_whoAt_2 (m + 1) SS 76 w (nI i) g = _; rw [e, if_neg q], trivial⟩)
    n 0 50000 () (by omega) (by omega) trivial
  have h0 : nI 0 = (0 : Int32) := nI_0
  rw [h0] at key
  refine key.trans ?_
  have e2 : ∀ k i, itE (fun i (_ : Unit) => if m_W g i = w then Sum.inl (nI i, g) else Sum.inr ()) (fun _ => ((-1 : Int32), g)) k i () = (itE (R := Int32) (σ := Unit) (fun i _ => if m_W g i = w then .inl (nI i) else .inr ()) (fun _ => -1) k i (), g) := by
    intro k
    induction k with
    | zero => intro i; rfl
    | succ k ih =>
      intro i
      rw [itE, itE]
      by_cases q : m_W g i = w
      · simp [q]
      · simp only [q, if_false]
        exact ih (i + 1)
  rw [e2]
  rfl
theorem m_lookers {g : e_G} {n : Nat} (h : MS g n) (w : Int32) : f_X11_lookersOf SS 76 w g = some (s_lookers (m_L g) n w, g) := by
  obtain ⟨hG, hn, h6⟩ := h
  unfold f_X11_lookersOf
  rw [if_pos ob11]
  have key := loopF (L := fun m i (a : Int32) => (L_X11_lookersOf_4 m SS 76 w a i g)) (n := n) (F := fun i a => if m_L g i = w then a + 1 else a) (fin := fun a => (a, g)) (I := fun _ _ => True)
    (fun m a _ => by
      show L_X11_lookersOf_4 (m + 1) SS 76 w a (nI n) g = _
      rw [L_X11_lookersOf_4]
      simp only [gI_ok ob11, Option.bind_some, hn]
      rw [if_pos (nI_le (Nat.le_refl n) (by omega))])
    (fun m i a hi _ => by
      refine ⟨?_, trivial⟩
      show L_X11_lookersOf_4 (m + 1) SS 76 w a (nI i) g = L_X11_lookersOf_4 m SS 76 w (if m_L g i = w then a + 1 else a) (nI (i + 1)) g
      rw [L_X11_lookersOf_4]
      simp only [gI_ok ob11, Option.bind_some, hn, (rf11 hG).2.2.1]
      rw [if_neg (nI_ge hi (by omega)), m_aL g (by omega)]
      simp only [Option.bind_some, J_X11_lookersOf_32, nI_1]
      split
      · rfl
      · rw [Int32.add_zero])
    n 0 50000 0 (by omega) (by omega) trivial
  have h0 : nI 0 = (0 : Int32) := nI_0
  rw [h0] at key
  exact key
theorem m_within {i : Nat} (hi : i < 6) (g : e_G) : f_X11_within SS (nI i) 0 5 g = some (nI i, g) := by
  unfold f_X11_within
  have k5 : (5 : Int32) = nI 5 := by decide +kernel
  rw [if_pos (nI_pos' (by omega)), k5, if_pos (nI_le (by omega) (by omega))]
theorem m_met {g : e_G} {n : Nat} (h : MS g n) {p : Nat} (hp : p < 6) : f_X11_isMet SS 76 (nI p) g = some (s_met (m_W g) (m_L g) n p, g) := by
  have hw := m_who h
  obtain ⟨hG, hn, h6⟩ := h
  unfold f_X11_isMet s_met
  rw [if_pos ob11]
  simp only [(rf11 hG).2.2.1, Option.bind_some, m_aL g hp, m_aW g hp, hw]
  rcases s_who_or (m_W g) n (m_L g p) with ⟨h1, -⟩ | ⟨j, h1, h2, -⟩
  · simp [h1]
  · rw [h2, if_neg (nI_ne_m1 (by omega)), if_neg (nI_ne_m1 (by omega)), m_within (show j < 6 by omega)]
    simp only [Option.bind_some, m_aL g (show j < 6 by omega), m_aW g hp, (rf11 hG).2.2.1, nI_clamp (show j < 2 ^ 31 by omega)]
    split <;> rfl
