/-! a text read: all else stays -/
theorem RX.at {f f' : Nat → Nat → Int32} {r r' : Nat → Nat → Option Nat} {t : Nat} {tk : Nat → List (Nat × Int32)} (h : RX (f, r) t tk) (e1 : ∀ i, 200 * t ≤ i → i < 200 * t + 200 → f' 81 i = f 81 i) (e2 : ∀ i, 4 * t ≤ i → i < 4 * t + 4 → f' 82 i = f 82 i) : RX (f', r') t tk := by
  refine ⟨h.1, fun p hp => ?_, fun p hp j hj => ?_⟩
  · show f' 82 _ = _
    rw [e2 _ (by omega) (by omega)]
    exact h.2.1 p hp
  · have := t_at_le2 h.1 hp
    show f' 81 _ = _ ∧ _
    rw [e1 _ (by omega) (by omega)]
    exact h.2.2 p hp j hj
theorem TX.at {f f' : Nat → Nat → Int32} {r r' : Nat → Nat → Option Nat} {t : Nat} {tk : Nat → List (Nat × Int32)} (h : TX (f, r) t tk) (e1 : f' (8 + 5 * t) = f (8 + 5 * t)) (e2 : f' (9 + 5 * t) = f (9 + 5 * t)) (e3 : f' (11 + 5 * t) = f (11 + 5 * t)) : TX (f', r') t tk := by
  refine ⟨h.1, fun p hp => ?_, fun p hp j hj => ?_⟩
  · show f' _ _ = _
    rw [e3]
    exact h.2.1 p hp
  · show f' _ _ = _ ∧ f' _ _ = _ ∧ _
    rw [e1, e2]
    exact h.2.2 p hp j hj
def XF (t : Nat) (f f' : Nat → Nat → Int32) : Prop := (∀ b, b ≠ 0 → b ≠ 3 → b ≠ 7 + 5 * t → b ≠ 8 + 5 * t → b ≠ 9 + 5 * t → b ≠ 11 + 5 * t → b ≠ 76 → b ≠ 81 → b ≠ 82 → b ≠ 90 → f' b = f b) ∧ (∀ k, k ≠ 9 → k ≠ 10 → f' 0 k = f 0 k) ∧ (∀ k, (k < 18 ∨ k = 22 ∨ k = 23 ∨ 27 ≤ k) → k ≠ 6 → k ≠ 9 → f' 76 k = f 76 k) ∧ (∀ i, (i < 200 * t ∨ 200 * t + 200 ≤ i) → f' 81 i = f 81 i) ∧ ∀ i, (i < 4 * t ∨ 4 * t + 4 ≤ i) → f' 82 i = f 82 i
theorem SQ.text {f f' : Nat → Nat → Int32} {r r' : Nat → Nat → Option Nat} {o n tc : Nat} {tk tk' : Nat → Nat → List (Nat × Int32)} {s : Nat → Nat → Int32} (h : SQ f r o n tk s) (hG : GG (f', r')) (k : ∀ j, j < 7 → f' (o + j) = f (o + j)) (hl : ∃ t, t < tc ∧ s 0 8 = nI t) (kt : ∀ t, t < tc → f' (8 + 5 * t) = f (8 + 5 * t) ∧ f' (9 + 5 * t) = f (9 + 5 * t) ∧ f' (11 + 5 * t) = f (11 + 5 * t)) (h6 : tc ≤ 6) (ktk : ∀ t, t < tc → tk' t = tk t) : SQ f' r' o n tk' s := by
  have law := h.l
  obtain ⟨s0, h1, h2⟩ := h
  have n0 : f' o = f o := k 0 (by omega)
  refine ⟨s0, ⟨⟨hG, h1.1.2.1, ?_, h1.1.2.2.2⟩, ?_, fun j hj => (k j hj).trans (h1.2.2.1 j hj), h1.2.2.2⟩, h2⟩
  · show f' o 6 = _
    rw [n0]
    exact h1.1.2.2.1
  · intro t ht e
    have e : f o 8 = nI t := (congrFun n0 8).symm.trans e
    obtain ⟨t', t1, t2⟩ := hl
    have : t = t' := nI_inj (by omega) (by omega) (e.symm.trans (law.trans t2))
    subst this
    have := h1.2.1 t ht e
    rw [ktk t t1]
    exact ⟨this.1.at (kt t t1).1 (kt t t1).2.1 (kt t t1).2.2, this.2⟩
theorem IN.text {f f' : Nat → Nat → Int32} {r r' : Nat → Nat → Option Nat} {n tc tc' tz : Nat} {tk tk' : Nat → Nat → List (Nat × Int32)} {s : Nat → Nat → Int32} (h : IN f r n tc tz tk s) (ht : tc < 6) (hX : XF tc f f') (hr : ∀ a j, a ≠ 3 → r' a j = r a j) (hc : tc ≤ tc' ∧ tc' ≤ 6) (h9 : f' 0 9 = nI tc') (h9' : f' 76 9 = nI tc') (h10 : f' 0 10 = 0) (h6 : f' 76 6 = 0) (ktk : ∀ t, t < tc → tk' t = tk t) (new : ∀ t, tc ≤ t → t < tc' → TX (f', r') t (tk' t) ∧ RX (f', r') t (tk' t) ∧ t_ok (tk' t)) : IN f' r' n tc' 0 tk' s := by
  obtain ⟨hS, hM, hR⟩ := h
  have hG' : GG (f', r') := fun a j h1 h2 => (hr a j h1).trans (hS.cs.1 a j h1 h2)
  obtain ⟨⟨g1, g2, g3, g4⟩, ⟨g5, g6, g7, g8, g9⟩, g10, g11, g12, g13, g14⟩ := hR
  obtain ⟨x1, x2, x3, x4, x5⟩ := hX
  have row : ∀ b, 37 ≤ b → b < 76 → f' b = f b := fun b h1 h2 => x1 b (by omega) (by omega) (by omega) (by omega) (by omega) (by omega) (by omega) (by omega) (by omega) (by omega)
  have kt : ∀ t, t < tc → f' (8 + 5 * t) = f (8 + 5 * t) ∧ f' (9 + 5 * t) = f (9 + 5 * t) ∧ f' (11 + 5 * t) = f (11 + 5 * t) := fun t h => ⟨x1 _ (by omega) (by omega) (by omega) (by omega) (by omega) (by omega) (by omega) (by omega) (by omega) (by omega), x1 _ (by omega) (by omega) (by omega) (by omega) (by omega) (by omega) (by omega) (by omega) (by omega) (by omega), x1 _ (by omega) (by omega) (by omega) (by omega) (by omega) (by omega) (by omega) (by omega) (by omega) (by omega)⟩
  have hi : ∀ b, 77 ≤ b → b ≠ 81 → b ≠ 82 → b ≠ 90 → f' b = f b := fun b h1 h2 h3 h4 => x1 b (by omega) (by omega) (by omega) (by omega) (by omega) (by omega) (by omega) h2 h3 h4
  have rx : ∀ t, t < tc → ∀ tk, RX (f, r) t tk → RX (f', r') t tk := fun t h tk q => q.at (fun i h1 h2 => x4 i (by omega)) (fun i h1 h2 => x5 i (by omega))
  refine ⟨hS.text hG' (fun j hj => row _ (by omega) (by omega)) g11 kt (by omega) ktk, ?_, ⟨h9, h9', by omega, hc.2⟩, ⟨by rw [h10]; rfl, by rw [h6]; rfl, by omega, fun k hk => by omega, fun k hk => by rw [hi 89 (by omega) (by omega) (by omega) (by omega)]; exact g9 k hk⟩, fun t h => ?_, ?_, g12, fun i hi4 => ?_, ?_⟩
  · obtain ⟨m1, m2, m3, t, m4, m5, m6, m7⟩ := hM
    obtain ⟨t', t1, t2⟩ := g11
    have tt : t = t' := nI_inj (by omega) (by omega) (m5.symm.trans (m2.1.2.trans t2))
    subst tt
    have ms : m_s f' = m_s f := by
      funext j k
      unfold m_s
      rw [x3 4 (by omega) (by omega) (by omega), x3 10 (by omega) (by omega) (by omega), hi 79 (by omega) (by omega) (by omega) (by omega), hi 77 (by omega) (by omega) (by omega) (by omega), hi 78 (by omega) (by omega) (by omega) (by omega)]
    exact ⟨⟨hG', (x3 0 (by omega) (by omega) (by omega)).trans m1.2.1, m1.2.2⟩, by rw [ms]; exact m2, m3, t, m4, (x3 10 (by omega) (by omega) (by omega)).trans m5, by rw [ktk t t1]; exact rx t t1 _ m6, by rw [ktk t t1]; exact m7⟩
  · by_cases y : t < tc
    · rw [ktk t y]
      obtain ⟨q1, q2, q3⟩ := g10 t y
      exact ⟨q1.at (kt t y).1 (kt t y).2.1 (kt t y).2.2, rx t y _ q2, q3⟩
    · exact new t (by omega) h
  · obtain ⟨t, t1, t2⟩ := g11
    exact ⟨t, by omega, t2⟩
  · obtain ⟨so, z, q⟩ := g13 i hi4
    refine ⟨so, z, ?_⟩
    unfold SH
    rw [row (37 + 2 * i) (by omega) (by omega), row (38 + 2 * i) (by omega) (by omega), hi 85 (by omega) (by omega) (by omega) (by omega), hi 86 (by omega) (by omega) (by omega) (by omega), hi 87 (by omega) (by omega) (by omega) (by omega)]
    exact q
  · rw [x2 11 (by omega) (by omega), x3 11 (by omega) (by omega) (by omega)]
    rcases g14 with q | ⟨q1, q2, ni, si, i1, i2, i3, i4, ⟨t, i5, i6⟩, i7, i8, i9, i10, i11⟩
    · exact Or.inl q
    · refine Or.inr ⟨q1, q2, ni, si, i1, i2.text hG' (fun j hj => row _ (by omega) (by omega)) ⟨t, i5, i6⟩ kt (by omega) ktk, i3, i4, ⟨t, by omega, i6⟩, i7, ?_, ?_, ?_, ?_⟩
      · rw [hi 84 (by omega) (by omega) (by omega) (by omega)]; exact i8
      · rw [hi 84 (by omega) (by omega) (by omega) (by omega)]; exact i9
      · rw [hi 84 (by omega) (by omega) (by omega) (by omega)]; exact i10
      · rw [hi 83 (by omega) (by omega) (by omega) (by omega)]; exact i11
/-- a row of three parts -/
theorem t_at_3 (A B C : List Emi) : ∀ p, p < 3 → ∀ j, (h : j < ((fun p => if p = 0 then A else if p = 1 then B else C) p).length) → ∃ h2 : t_at (fun p => if p = 0 then A else if p = 1 then B else C) p + j < ((A ++ B) ++ C).length, ((A ++ B) ++ C)[t_at (fun p => if p = 0 then A else if p = 1 then B else C) p + j] = ((fun p => if p = 0 then A else if p = 1 then B else C) p)[j] := by
  intro p hp j h
  match p, hp, h with
  | 0, _, h =>
    have h : j < A.length := h
    refine ⟨by show 0 + j < _; simp; omega, ?_⟩
    show ((A ++ B) ++ C)[0 + j]'_ = A[j]
    simp only [Nat.zero_add]
    rw [List.getElem_append_left (by simp; omega), List.getElem_append_left h]
  | 1, _, h =>
    have h : j < B.length := h
    refine ⟨by show 0 + A.length + j < _; simp; omega, ?_⟩
    show ((A ++ B) ++ C)[0 + A.length + j]'_ = B[j]
    simp only [Nat.zero_add]
    rw [List.getElem_append_left (by simp; omega), List.getElem_append_right (by omega)]
    simp
  | 2, _, h =>
    have h : j < C.length := h
    refine ⟨by show 0 + A.length + B.length + j < _; simp; omega, ?_⟩
    show ((A ++ B) ++ C)[0 + A.length + B.length + j]'_ = C[j]
    simp only [Nat.zero_add]
    rw [List.getElem_append_right (by simp)]
    simp
