theorem add_0 (a : Int32) : a + 0 = a := Int32.add_zero a
/-- pairs met, counted from the side of the low windows -/
def s_meets2 (W Lk : Nat → Int32) (n : Nat) : Int32 := itF (σ := Int32) (fun i a => if s_met W Lk n i = 0 then a else if 10 ≤ W i then a else a + 1) n 0 0
theorem m_meets {g : e_G} {n : Nat} (h : MS g n) : f_X11_metTwos SS 76 g = some (s_meets2 (m_W g) (m_L g) n, g) := by
  have hm := @m_met g n h
  obtain ⟨hG, hn, h6⟩ := h
  unfold f_X11_metTwos
  rw [if_pos ob11]
  have key := loopF (L := fun m i (a : Int32) => (L_X11_metTwos_4 m SS 76 a i g)) (n := n) (F := fun i a => if s_met (m_W g) (m_L g) n i = 0 then a else if 10 ≤ m_W g i then a else a + 1) (fin := fun a => (a, g)) (I := fun _ _ => True)
    (fun m a _ => by
      show L_X11_metTwos_4 (m + 1) SS 76 a (nI n) g = _
      rw [L_X11_metTwos_4]
      simp only [gI_ok ob11, Option.bind_some, hn]
      rw [if_pos (nI_le (Nat.le_refl n) (by omega))])
    (fun m i a hi _ => by
      refine ⟨?_, trivial⟩
      show L_X11_metTwos_4 (m + 1) SS 76 a (nI i) g = L_X11_metTwos_4 m SS 76 (if s_met (m_W g) (m_L g) n i = 0 then a else if 10 ≤ m_W g i then a else a + 1) (nI (i + 1)) g
      rw [L_X11_metTwos_4]
      simp only [gI_ok ob11, Option.bind_some, hn]
      rw [if_neg (nI_ge hi (by omega)), hm (show i < 6 by omega)]
      simp only [Option.bind_some, (rf11 hG).2.2.1, m_aW g (show i < 6 by omega), J_X11_metTwos_38, J_X11_metTwos_39, add_0, nI_1]
      split
      · rfl
      · split <;> rfl)
    n 0 50000 0 (by omega) (by omega) trivial
  have h0 : nI 0 = (0 : Int32) := nI_0
  rw [h0] at key
  exact key
theorem m_end {g : e_G} {n : Nat} (h : MS g n) {i : Nat} (hi : i < 6) (side : Int32) : f_X11_endOn SS 76 (nI i) side g = some (i_rem (s_end (m_W g) (m_L g) side i) 10, g) := by
  obtain ⟨hG, hn, h6⟩ := h
  unfold f_X11_endOn s_end
  rw [if_pos ob11]
  simp only [(rf11 hG).2.2.1, Option.bind_some, m_aW g hi, m_aL g hi]
  split <;> rfl
def s_x2 (W Lk : Nat → Int32) (i j : Nat) (a : Int32) : Int32 := if i_rem (s_end W Lk 0 j) 10 ≤ i_rem (s_end W Lk 0 i) 10 then a else if i_rem (s_end W Lk 1 i) 10 ≤ i_rem (s_end W Lk 1 j) 10 then a else a + 1
def s_cross2 (W Lk : Nat → Int32) (n : Nat) : Int32 := itF (σ := Int32) (fun i a => itF (σ := Int32) (fun j a => s_x2 W Lk i j a) n 0 a) n 0 0
theorem m_cross {g : e_G} {n : Nat} (h : MS g n) : f_X11_crossing SS 76 g = some (s_cross2 (m_W g) (m_L g) n, g) := by
  have he := @m_end g n h
  obtain ⟨hG, hn, h6⟩ := h
  unfold f_X11_crossing
  rw [if_pos ob11]
  have h0 : nI 0 = (0 : Int32) := nI_0
  have inner : ∀ (c4 : Nat → Int32 → Int32 → e_G → Option (Int32 × e_G)) (i : Nat), i < n → ∀ a, L_X11_crossing_14 c4 50000 SS 76 a (nI i) 0 g = c4 76 (itF (σ := Int32) (fun j a => s_x2 (m_W g) (m_L g) i j a) n 0 a) (nI (i + 1)) g := by
    intro c4 i hi a
    have := loopC (L := fun m j (a : Int32) => L_X11_crossing_14 c4 m SS 76 a (nI i) j g) (n := n) (F := fun j a => s_x2 (m_W g) (m_L g) i j a) (C := fun a => c4 76 a (nI (i + 1)) g)
      (fun m a => by
        show L_X11_crossing_14 c4 (m + 1) SS 76 a (nI i) (nI n) g = _
        rw [L_X11_crossing_14]
        simp only [gI_ok ob11, Option.bind_some, hn]
        rw [if_pos (nI_le (Nat.le_refl n) (by omega)), nI_1])
      (fun m j a hj => by
        show L_X11_crossing_14 c4 (m + 1) SS 76 a (nI i) (nI j) g = L_X11_crossing_14 c4 m SS 76 (s_x2 (m_W g) (m_L g) i j a) (nI i) (nI (j + 1)) g
        rw [L_X11_crossing_14]
        simp only [gI_ok ob11, Option.bind_some, hn]
        rw [if_neg (nI_ge hj (by omega))]
        simp only [he (show i < 6 by omega), he (show j < 6 by omega), Option.bind_some, J_X11_crossing_57, J_X11_crossing_58, nI_1, add_0]
        unfold s_x2
        split
        · rfl
        · split <;> rfl)
      n 0 50000 a (by omega) (by omega)
    rw [h0] at this
    exact this
  have key := loopF (L := fun m i (a : Int32) => (L_X11_crossing_4 m SS 76 a i g)) (n := n) (F := fun i a => itF (σ := Int32) (fun j a => s_x2 (m_W g) (m_L g) i j a) n 0 a) (fin := fun a => (a, g)) (I := fun _ _ => True)
    (fun m a _ => by
      show L_X11_crossing_4 (m + 1) SS 76 a (nI n) g = _
      rw [L_X11_crossing_4]
      simp only [gI_ok ob11, Option.bind_some, hn]
      rw [if_pos (nI_le (Nat.le_refl n) (by omega))])
    (fun m i a hi _ => by
      refine ⟨?_, trivial⟩
      show L_X11_crossing_4 (m + 1) SS 76 a (nI i) g = L_X11_crossing_4 m SS 76 (itF (σ := Int32) (fun j a => s_x2 (m_W g) (m_L g) i j a) n 0 a) (nI (i + 1)) g
      rw [L_X11_crossing_4]
      simp only [gI_ok ob11, Option.bind_some, hn]
      rw [if_neg (nI_ge hi (by omega)), inner _ i hi])
    n 0 50000 0 (by omega) (by omega) trivial
  rw [h0] at key
  exact key
