theorem or_0 (a : Int32) : a ||| 0 = a := by
  apply Int32.toBitVec_inj.mp
  simp
theorem m_unseen {g : e_G} {n : Nat} (h : MS g n) : f_X11_unseen SS 76 g = some (s_unseen (m_W g) (m_L g) n, g) := by
  have hl := @m_lookers g n h
  obtain ⟨hG, hn, h6⟩ := h
  unfold f_X11_unseen
  rw [if_pos ob11]
  have key := loopF (L := fun m i (a : Int32) => (L_X11_unseen_4 m SS 76 a i g)) (n := n) (F := fun i a => if s_lookers (m_L g) n (m_W g i) = 0 then a ||| ((1 : Int32) <<< (nI i &&& 31)) else a) (fin := fun a => (a, g)) (I := fun _ _ => True)
    (fun m a _ => by
      show L_X11_unseen_4 (m + 1) SS 76 a (nI n) g = _
      rw [L_X11_unseen_4]
      simp only [gI_ok ob11, Option.bind_some, hn]
      rw [if_pos (nI_le (Nat.le_refl n) (by omega))])
    (fun m i a hi _ => by
      refine ⟨?_, trivial⟩
      show L_X11_unseen_4 (m + 1) SS 76 a (nI i) g = L_X11_unseen_4 m SS 76 (if s_lookers (m_L g) n (m_W g i) = 0 then a ||| ((1 : Int32) <<< (nI i &&& 31)) else a) (nI (i + 1)) g
      rw [L_X11_unseen_4]
      simp only [gI_ok ob11, Option.bind_some, hn, (rf11 hG).2.2.1]
      rw [if_neg (nI_ge hi (by omega)), m_aW g (by omega)]
      simp only [Option.bind_some, hl, J_X11_unseen_35, nI_1]
      split
      · rfl
      · rw [or_0])
    n 0 50000 0 (by omega) (by omega) trivial
  have h0 : nI 0 = (0 : Int32) := nI_0
  rw [h0] at key
  exact key
theorem m_sum {g : e_G} {n : Nat} (h : MS g n) : f_X11_leanAll SS 76 g = some (s_sum (m_N g) n, g) := by
  obtain ⟨hG, hn, h6⟩ := h
  unfold f_X11_leanAll
  rw [if_pos ob11]
  have key := loopF (L := fun m i (a : Int32) => (L_X11_leanAll_4 m SS 76 a i g)) (n := n) (F := fun i a => a + m_N g i) (fin := fun a => (a, g)) (I := fun _ _ => True)
    (fun m a _ => by
      show L_X11_leanAll_4 (m + 1) SS 76 a (nI n) g = _
      rw [L_X11_leanAll_4]
      simp only [gI_ok ob11, Option.bind_some, hn]
      rw [if_pos (nI_le (Nat.le_refl n) (by omega))])
    (fun m i a hi _ => by
      refine ⟨?_, trivial⟩
      show L_X11_leanAll_4 (m + 1) SS 76 a (nI i) g = L_X11_leanAll_4 m SS 76 (a + m_N g i) (nI (i + 1)) g
      rw [L_X11_leanAll_4]
      simp only [gI_ok ob11, Option.bind_some, hn, (rf11 hG).2.2.1]
      rw [if_neg (nI_ge hi (by omega)), m_aN g (by omega)]
      simp only [Option.bind_some, nI_1])
    n 0 50000 0 (by omega) (by omega) trivial
  have h0 : nI 0 = (0 : Int32) := nI_0
  rw [h0] at key
  exact key
theorem m_bits {g : e_G} {n : Nat} (h : MS g n) (hb : ∀ p, p < n → m_K g p = 0 ∨ m_K g p = 1) : f_X11_keptSet SS 76 g = some (s_bits (m_K g) n, g) := by
  obtain ⟨hG, hn, h6⟩ := h
  unfold f_X11_keptSet
  rw [if_pos ob11]
  have z : ∀ i, i < 6 → (0 : Int32) <<< (nI i &&& 31) = 0 := by decide +kernel
  have key := loopF (L := fun m i (a : Int32) => (L_X11_keptSet_4 m SS 76 a i g)) (n := n) (F := fun i a => if m_K g i = 0 then a else a ||| ((1 : Int32) <<< (nI i &&& 31))) (fin := fun a => (a, g)) (I := fun _ _ => True)
    (fun m a _ => by
      show L_X11_keptSet_4 (m + 1) SS 76 a (nI n) g = _
      rw [L_X11_keptSet_4]
      simp only [gI_ok ob11, Option.bind_some, hn]
      rw [if_pos (nI_le (Nat.le_refl n) (by omega))])
    (fun m i a hi _ => by
      refine ⟨?_, trivial⟩
      show L_X11_keptSet_4 (m + 1) SS 76 a (nI i) g = L_X11_keptSet_4 m SS 76 (if m_K g i = 0 then a else a ||| ((1 : Int32) <<< (nI i &&& 31))) (nI (i + 1)) g
      rw [L_X11_keptSet_4]
      simp only [gI_ok ob11, Option.bind_some, hn, (rf11 hG).2.2.1]
      rw [if_neg (nI_ge hi (by omega)), m_aK g (by omega)]
      simp only [Option.bind_some, nI_1]
      rcases hb i (by omega) with q | q
      · rw [q, if_pos rfl, z i (by omega), or_0]
      · rw [q, if_neg (by decide)])
    n 0 50000 0 (by omega) (by omega) trivial
  have h0 : nI 0 = (0 : Int32) := nI_0
  rw [h0] at key
  exact key
theorem m_most {g : e_G} {n : Nat} (h : MS g n) : f_X11_mostLooked SS 76 g = some ((s_most (m_L g) n).2, g) := by
  have hl := @m_lookers g n h
  unfold f_X11_mostLooked
  rw [if_pos ob11]
  have k20 : (20 : Int32) = nI 20 := by decide +kernel
  have key := loopF (L := fun m i (a : Int32 × Int32) => (L_X11_mostLooked_6 m SS 76 a.2 a.1 i g)) (n := 20) (F := fun w a => if s_lookers (m_L g) n (nI w) ≤ a.1 then a else (s_lookers (m_L g) n (nI w), nI w)) (fin := fun a => (a.2, g)) (I := fun _ _ => True)
    (fun m a _ => by
      show L_X11_mostLooked_6 (m + 1) SS 76 a.2 a.1 (nI 20) g = _
      rw [L_X11_mostLooked_6, k20, if_pos (nI_le (Nat.le_refl 20) (by omega))])
    (fun m i a hi _ => by
      refine ⟨?_, trivial⟩
      show L_X11_mostLooked_6 (m + 1) SS 76 a.2 a.1 (nI i) g = _
      rw [L_X11_mostLooked_6, k20, if_neg (nI_ge hi (by omega)), hl]
      simp only [Option.bind_some, J_X11_mostLooked_30, J_X11_mostLooked_43, nI_1]
      by_cases q : s_lookers (m_L g) n (nI i) ≤ a.1
      · rw [if_pos q, if_pos q, if_pos q]
      · rw [if_neg q, if_neg q, if_neg q])
    20 0 50000 ((0 : Int32), (-1 : Int32)) (by omega) (by omega) trivial
  have h0 : nI 0 = (0 : Int32) := nI_0
  rw [h0] at key
  exact key
