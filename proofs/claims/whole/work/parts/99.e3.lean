/-! the start: all that holds between calls holds there -/
def tk0 (p : Nat) : List Emi := if p = 0 then [(0, 5), (1, 1), (6, 0)] else if p = 1 then [(0, 60)] else [(1, 2)]
theorem tk0_R : ∀ p, p < 3 → ∀ q, q ∈ tk0 p → tokR q := by
  intro p hp q hq
  have num : ∀ k, k ≤ 99999 → tokR (0, nI k) := fun k hk => ⟨⟨by show 0 ≤ 10; omega, fun e => absurd (show (0 : Nat) = 1 from e) (by decide)⟩, fun _ => ⟨k, hk, rfl⟩⟩
  have nam : ∀ k, k < 6 → tokR (1, nI k) := fun k hk => ⟨⟨by show 1 ≤ 10; omega, fun _ => ⟨k, hk, rfl⟩⟩, fun e => absurd (show (1 : Nat) = 0 from e) (by decide)⟩
  rcases (by omega : p = 0 ∨ p = 1 ∨ p = 2) with rfl | rfl | rfl
  · have hq : q ∈ [((0 : Nat), (5 : Int32)), (1, 1), (6, 0)] := hq
    simp only [List.mem_cons, List.not_mem_nil, or_false] at hq
    rcases hq with rfl | rfl | rfl
    · exact num 5 (by omega)
    · exact nam 1 (by omega)
    · exact tokR_op (by omega) (by omega)
  · have hq : q ∈ [((0 : Nat), (60 : Int32))] := hq
    simp only [List.mem_cons, List.not_mem_nil, or_false] at hq
    rw [hq]
    exact num 60 (by omega)
  · have hq : q ∈ [((1 : Nat), (2 : Int32))] := hq
    simp only [List.mem_cons, List.not_mem_nil, or_false] at hq
    rw [hq]
    exact nam 2 (by omega)
theorem tk0_ok : t_ok tk0 := by
  intro p hp nm
  rcases (by omega : p = 0 ∨ p = 1 ∨ p = 2) with rfl | rfl | rfl
  · exact ⟨_, rfl⟩
  · exact ⟨_, rfl⟩
  · exact ⟨_, rfl⟩
theorem tk0_cells : ∀ p, p < 3 → ∀ j, j < (tk0 p).length → k2_.1 8 (t_at tk0 p + j) = nI ((tk0 p).getD j (0, 0)).1 ∧ k2_.1 9 (t_at tk0 p + j) = ((tk0 p).getD j (0, 0)).2 ∧ k2_.1 81 (t_at tk0 p + j) = m_enc ((tk0 p).getD j (0, 0)) := by decide +kernel
theorem tk0_ends : (∀ p, p < 3 → k2_.1 11 p = nI (t_at tk0 (p + 1))) ∧ ∀ p, p < 4 → k2_.1 82 p = nI (t_at tk0 p) := by decide +kernel
theorem k2_sheets : ∀ i, i < 4 → k2_.1 (37 + 2 * i) 1 = -1 ∧ k2_.1 85 i = -1 ∧ k2_.1 (37 + 2 * i) 2 = nI 0 ∧ k2_.1 86 i = nI 0 := by decide +kernel
theorem gd_get {A : List Emi} {j : Nat} (h : j < A.length) : A.getD j (0, 0) = A[j] := by
  rw [List.getD_eq_getElem?_getD, List.getElem?_eq_getElem h]
  rfl
theorem start_inv {g : e_G} (hG : GG g) (rows : g.1 0 9 = 1 ∧ g.1 76 9 = 1 ∧ g.1 0 10 = 0 ∧ g.1 76 6 = 0 ∧ g.1 0 11 = 0 ∧ g.1 76 11 = 0 ∧ g.1 76 0 = 0 ∧ g.1 76 4 = 0 ∧ g.1 76 10 = 0 ∧ g.1 52 6 = 0 ∧ g.1 52 7 = 0 ∧ g.1 52 8 = 0) (words : ∀ k, k < 96 → g.1 89 k = nI (c_wt k)) (cells : ∀ p, p < 3 → ∀ j, j < (tk0 p).length → g.1 8 (t_at tk0 p + j) = nI ((tk0 p).getD j (0, 0)).1 ∧ g.1 9 (t_at tk0 p + j) = ((tk0 p).getD j (0, 0)).2 ∧ g.1 81 (t_at tk0 p + j) = m_enc ((tk0 p).getD j (0, 0))) (ends : (∀ p, p < 3 → g.1 11 p = nI (t_at tk0 (p + 1))) ∧ ∀ p, p < 4 → g.1 82 p = nI (t_at tk0 p)) (sheets : ∀ i, i < 4 → g.1 (37 + 2 * i) 1 = -1 ∧ g.1 85 i = -1 ∧ g.1 (37 + 2 * i) 2 = nI 0 ∧ g.1 86 i = nI 0) : Inv_ g := by
  obtain ⟨r1, r2, r3, r4, r5, r6, r7, r8, r9, r10, r11, r12⟩ := rows
  have hT : TX g 0 tk0 := ⟨by decide, fun p hp => ends.1 p hp, fun p hp j h => by
    have := cells p hp j h
    rw [gd_get h] at this
    exact ⟨this.1, this.2.1, (tk0_R p hp _ (List.getElem_mem h)).1⟩⟩
  have hR : RX g 0 tk0 := ⟨by decide, fun p hp => by
    rw [show 4 * 0 + p = p by omega]
    exact ends.2 p (by omega), fun p hp j h => by
    have := cells p hp j h
    rw [gd_get h] at this
    rw [show 200 * 0 + (t_at tk0 p + j) = t_at tk0 p + j by omega]
    exact ⟨this.2.2, tk0_R p hp _ (List.getElem_mem h)⟩⟩
  have n0 : (0 : Int32) = nI 0 := nI_0.symm
  refine ⟨0, 1, 0, fun _ => tk0, fun _ _ => 0, ⟨fun j => g.1 (52 + j), ⟨⟨hG, Or.inl rfl, r10.trans n0, by omega⟩, fun t ht e => ?_, fun j _ => rfl, fun p hp => by omega⟩, ⟨r11, r12⟩, fun j _ _ p hp => by omega⟩, ⟨⟨hG, r7.trans n0, by omega⟩, ⟨⟨r8, r9⟩, fun j _ _ p hp => by omega⟩, ⟨fun p hp => by omega, fun p q hp => by omega⟩, 0, by omega, r9.trans n0, hR, tk0_ok⟩, ⟨r1.trans (by decide +kernel), r2.trans (by decide +kernel), by omega, by omega⟩, ⟨r3.trans n0, r4.trans n0, by omega, fun k hk => by omega, words⟩, fun t ht => ?_, ⟨0, by omega, n0⟩, ⟨0, by omega, n0⟩, fun i hi => ?_, Or.inl ⟨r5, r6⟩⟩
  · have e : g.1 52 8 = nI t := e
    rw [r12, n0] at e
    have := nI_inj (by omega) (by omega) e
    subst this
    exact ⟨hT, tk0_ok⟩
  · obtain rfl : t = 0 := by omega
    exact ⟨hT, hR, tk0_ok⟩
  · obtain ⟨s1, s2, s3, s4⟩ := sheets i hi
    exact ⟨-1, 0, s1, s2, s3, s4, by omega, fun k hk => by omega⟩
theorem k2_inv : Inv_ k2_ := start_inv k2_GG k2_rows k2_words tk0_cells tk0_ends k2_sheets
