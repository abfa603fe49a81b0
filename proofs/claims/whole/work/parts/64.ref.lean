def s_far (a b : Int32) : Int32 := if 0 ≤ i_rem a 10 - i_rem b 10 then i_rem a 10 - i_rem b 10 else -(i_rem a 10 - i_rem b 10)
theorem m_far (a b : Int32) (g : e_G) : f_X11_farOf SS a b g = some (s_far a b, g) := by
  unfold f_X11_farOf s_far
  split <;> rfl
/-- those kept beside one, the reference's count -/
def s_beside2 (W Kp : Nat → Int32) (n p : Nat) : Int32 := itF (σ := Int32) (fun i a => if W i / 10 = W p / 10 then (if s_far (W i) (W p) = 1 then (if nI i = nI p then a else a + Kp i) else a) else a) n 0 0
theorem m_beside {g : e_G} {n : Nat} (h : MS g n) {p : Nat} (hp : p < 6) : f_X11_besideOf SS 76 (nI p) g = some (s_beside2 (m_W g) (m_K g) n p, g) := by
  obtain ⟨hG, hn, h6⟩ := h
  unfold f_X11_besideOf
  rw [if_pos ob11, (rf11 hG).2.2.1, Option.bind_some, m_aW g hp, Option.bind_some]
  have key := loopF (L := fun m i (a : Int32) => (L_X11_besideOf_14 m SS 76 (nI p) a (m_W g p) i g)) (n := n) (F := fun i a => if m_W g i / 10 = m_W g p / 10 then (if s_far (m_W g i) (m_W g p) = 1 then (if nI i = nI p then a else a + m_K g i) else a) else a) (fin := fun a => (a, g)) (I := fun _ _ => True)
    (fun m a _ => by
      show L_X11_besideOf_14 (m + 1) SS 76 (nI p) a (m_W g p) (nI n) g = _
      rw [L_X11_besideOf_14]
      simp only [gI_ok ob11, Option.bind_some, hn]
      rw [if_pos (nI_le (Nat.le_refl n) (by omega))])
    (fun m i a hi _ => by
      refine ⟨?_, trivial⟩
      show L_X11_besideOf_14 (m + 1) SS 76 (nI p) a (m_W g p) (nI i) g = L_X11_besideOf_14 m SS 76 (nI p) (if m_W g i / 10 = m_W g p / 10 then (if s_far (m_W g i) (m_W g p) = 1 then (if nI i = nI p then a else a + m_K g i) else a) else a) (m_W g p) (nI (i + 1)) g
      rw [L_X11_besideOf_14]
      simp only [gI_ok ob11, Option.bind_some, hn]
      rw [if_neg (nI_ge hi (by omega))]
      simp only [(rf11 hG).2.2.1, Option.bind_some, m_aW g (show i < 6 by omega), m_aK g (show i < 6 by omega), m_far, J_X11_besideOf_63, J_X11_besideOf_64, J_X11_besideOf_92, J_X11_besideOf_93, nI_1, add_0]
      by_cases q1 : m_W g i / 10 = m_W g p / 10
      · rw [if_pos q1, if_pos q1]
        by_cases q2 : s_far (m_W g i) (m_W g p) = 1
        · rw [if_pos q2, if_pos q2]
          by_cases q3 : nI i = nI p
          · rw [if_pos q3, if_pos q3]
          · rw [if_neg q3, if_neg q3]; exact if_neg (by decide +kernel)
        · rw [if_neg q2, if_neg q2]
          by_cases q3 : nI i = nI p
          · rw [if_pos q3]
          · rw [if_neg q3, if_pos trivial]
      · rw [if_neg q1, if_neg q1]
        by_cases q3 : nI i = nI p
        · rw [if_pos q3]
        · rw [if_neg q3, if_pos trivial])
    n 0 50000 0 (by omega) (by omega) trivial
  have h0 : nI 0 = (0 : Int32) := nI_0
  rw [h0] at key
  exact key
def s_in (x a b : Int32) : Int32 := if x < a then 0 else if b < x then 0 else 1
theorem m_in (x a b : Int32) (g : e_G) : f_X11_in SS x a b g = some (s_in x a b, g) := by
  unfold f_X11_in s_in
  split
  · rfl
  · split <;> rfl
theorem s_in01 (x a b : Int32) : s_in x a b = 0 ∨ s_in x a b = 1 := by
  unfold s_in
  split
  · exact Or.inl rfl
  · split
    · exact Or.inl rfl
    · exact Or.inr rfl
theorem m_one {g : e_G} {n : Nat} (h : MS g n) (x : Int32) : f_X11_isOne SS 76 x g = some (s_in x 0 (nI n - 1), g) := by
  obtain ⟨hG, hn, h6⟩ := h
  unfold f_X11_isOne
  rw [if_pos ob11]
  simp only [gI_ok ob11, Option.bind_some, hn, m_in]
  rw [if_pos (s_in01 _ _ _)]
theorem m_across (a b : Int32) (g : e_G) : f_X11_areAcross SS a b g = some (if s_in a 0 19 = 0 then 0 else if s_in b 0 19 = 0 then 0 else if a / 10 = b / 10 then 0 else 1, g) := by
  unfold f_X11_areAcross
  simp only [m_in, Option.bind_some]
  split
  · rfl
  · split
    · rfl
    · split <;> rfl
