/-- a loop that goes on elsewhere -/
theorem loopC {R σ : Type} {L : Nat → Int32 → σ → Option R} {n : Nat} {F : Nat → σ → σ} {C : σ → Option R}
    (hend : ∀ m s, L (m + 1) (nI n) s = C s)
    (hstep : ∀ m i s, i < n → L (m + 1) (nI i) s = L m (nI (i + 1)) (F i s)) :
    ∀ k i m s, i + k = n → k < m → L m (nI i) s = C (itF F k i s) := by
  intro k
  induction k with
  | zero =>
    intro i m s hi hm
    obtain ⟨m, rfl⟩ : ∃ q, m = q + 1 := ⟨m - 1, by omega⟩
    have : i = n := by omega
    subst this
    exact hend m s
  | succ k ih =>
    intro i m s hi hm
    obtain ⟨m, rfl⟩ : ∃ q, m = q + 1 := ⟨m - 1, by omega⟩
    rw [hstep m i s (by omega), itF]
    exact ih (i + 1) m (F i s) (by omega) (by omega)
def s_cmp (a b : Int32) : Int32 := if b ≤ a then (if a = b then 0 else 1) else -1
theorem j_cmp (a b : Int32) (g : e_G) : f_J6_compare_7cf53 SS a b g = some (s_cmp a b, g) := by
  unfold f_J6_compare_7cf53 s_cmp
  split
  · split <;> rfl
  · rfl
/-- the end of one's look on a side -/
def s_end (W Lk : Nat → Int32) (side : Int32) (i : Nat) : Int32 := if W i / 10 = side then W i else Lk i
theorem cs_end {g : e_G} {o n : Nat} (h : CS g o n) {i : Nat} (hi : i < 6) (side : Int32) : f_X7_endOn SS o side (nI i) g = some (s_end (g.1 (o + 1)) (g.1 (o + 2)) side i, g) := by
  obtain ⟨hG, hS, hn, h6⟩ := h
  unfold f_X7_endOn s_end
  rw [if_pos (obS hS)]
  simp only [(rfS hG hS).1, (rfS hG hS).2.1, Option.bind_some, aI_ok (arS hS).1 hi (by omega : 6 < 2 ^ 31), aI_ok (arS hS).2.1 hi (by omega : 6 < 2 ^ 31)]
  split <;> rfl
def s_xs (W Lk : Nat → Int32) (i j : Nat) : Int32 := s_cmp (s_end W Lk 0 i) (s_end W Lk 0 j) * s_cmp (s_end W Lk 1 i) (s_end W Lk 1 j)
/-- pairs whose looks cross -/
def s_cross (W Lk : Nat → Int32) (n : Nat) : Int32 := itF (σ := Int32) (fun i a => itF (σ := Int32) (fun j a => if 0 ≤ s_xs W Lk i j then a else a + 1) (n - (i + 1)) (i + 1) a) n 0 0
theorem cs_cross {g : e_G} {o n : Nat} (h : CS g o n) : f_X7_crossings SS o g = some (s_cross (g.1 (o + 1)) (g.1 (o + 2)) n, g) := by
  have he := @cs_end g o n h
  obtain ⟨hG, hS, hn, h6⟩ := h
  unfold f_X7_crossings
  rw [if_pos (obS hS)]
  have inner : ∀ (c4 : Nat → Int32 → Int32 → e_G → Option (Int32 × e_G)) (i : Nat), i < n → ∀ a, L_X7_crossings_16 c4 50000 SS o a (nI i) (nI (i + 1)) g = c4 o (itF (σ := Int32) (fun j a => if 0 ≤ s_xs (g.1 (o + 1)) (g.1 (o + 2)) i j then a else a + 1) (n - (i + 1)) (i + 1) a) (nI (i + 1)) g := by
    intro c4 i hi a
    exact loopC (L := fun m j (a : Int32) => L_X7_crossings_16 c4 m SS o a (nI i) j g) (n := n) (F := fun j a => if 0 ≤ s_xs (g.1 (o + 1)) (g.1 (o + 2)) i j then a else a + 1) (C := fun a => c4 o a (nI (i + 1)) g)
      (fun m a => by
        show L_X7_crossings_16 c4 (m + 1) SS o a (nI i) (nI n) g = _
        rw [L_X7_crossings_16]
        simp only [gI_ok (obS hS), Option.bind_some, hn]
        rw [if_pos (nI_le (Nat.le_refl n) (by omega)), nI_1])
      (fun m j a hj => by
        show L_X7_crossings_16 c4 (m + 1) SS o a (nI i) (nI j) g = L_X7_crossings_16 c4 m SS o (if 0 ≤ s_xs (g.1 (o + 1)) (g.1 (o + 2)) i j then a else a + 1) (nI i) (nI (j + 1)) g
        rw [L_X7_crossings_16]
        simp only [gI_ok (obS hS), Option.bind_some, hn]
        rw [if_neg (nI_ge hj (by omega))]
        simp only [he (show i < 6 by omega), he (show j < 6 by omega), j_cmp, Option.bind_some, J_X7_crossings_69, nI_1]
        unfold s_xs
        split <;> rfl)
      (n - (i + 1)) (i + 1) 50000 a (by omega) (by omega)
  have key := loopF (L := fun m i (a : Int32) => (L_X7_crossings_4 m SS o a i g)) (n := n) (F := fun i a => itF (σ := Int32) (fun j a => if 0 ≤ s_xs (g.1 (o + 1)) (g.1 (o + 2)) i j then a else a + 1) (n - (i + 1)) (i + 1) a) (fin := fun a => (a, g)) (I := fun _ _ => True)
    (fun m a _ => by
      show L_X7_crossings_4 (m + 1) SS o a (nI n) g = _
      rw [L_X7_crossings_4]
      simp only [gI_ok (obS hS), Option.bind_some, hn]
      rw [if_pos (nI_le (Nat.le_refl n) (by omega))])
    (fun m i a hi _ => by
      refine ⟨?_, trivial⟩
      show L_X7_crossings_4 (m + 1) SS o a (nI i) g = L_X7_crossings_4 m SS o (itF (σ := Int32) (fun j a => if 0 ≤ s_xs (g.1 (o + 1)) (g.1 (o + 2)) i j then a else a + 1) (n - (i + 1)) (i + 1) a) (nI (i + 1)) g
      rw [L_X7_crossings_4]
      simp only [gI_ok (obS hS), Option.bind_some, hn]
      rw [if_neg (nI_ge hi (by omega)), nI_1, inner _ i hi])
    n 0 50000 0 (by omega) (by omega) trivial
  have h0 : nI 0 = (0 : Int32) := nI_0
  rw [h0] at key
  exact key
/-- the window most looked at: how many look there, which one -/
def s_most (Lk : Nat → Int32) (n : Nat) : Int32 × Int32 := itF (σ := Int32 × Int32) (fun w a => if s_lookers Lk n (nI w) ≤ a.1 then a else (s_lookers Lk n (nI w), nI w)) 20 0 (0, -1)
theorem cs_most {g : e_G} {o n : Nat} (h : CS g o n) : f_X7_mostLookedAt SS o g = some ((s_most (g.1 (o + 2)) n).2, g) := by
  have hl := @cs_lookers g o n h
  unfold f_X7_mostLookedAt
  rw [if_pos (obS h.2.1)]
  have k20 : (20 : Int32) = nI 20 := by decide +kernel
  have key := loopF (L := fun m i (a : Int32 × Int32) => (L_X7_mostLookedAt_6 m SS o a.1 a.2 i g)) (n := 20) (F := fun w a => if s_lookers (g.1 (o + 2)) n (nI w) ≤ a.1 then a else (s_lookers (g.1 (o + 2)) n (nI w), nI w)) (fin := fun a => (a.2, g)) (I := fun _ _ => True)
    (fun m a _ => by
      show L_X7_mostLookedAt_6 (m + 1) SS o a.1 a.2 (nI 20) g = _
      rw [L_X7_mostLookedAt_6, k20, if_pos (nI_le (Nat.le_refl 20) (by omega))])
    (fun m i a hi _ => by
      refine ⟨?_, trivial⟩
      show L_X7_mostLookedAt_6 (m + 1) SS o a.1 a.2 (nI i) g = _
      rw [L_X7_mostLookedAt_6, k20, if_neg (nI_ge hi (by omega)), hl]
      simp only [Option.bind_some, J_X7_mostLookedAt_30, nI_1]
      by_cases q : s_lookers (g.1 (o + 2)) n (nI i) ≤ a.1
      · rw [if_pos q, if_pos q]
      · rw [if_neg q, if_neg q])
    20 0 50000 ((0 : Int32), (-1 : Int32)) (by omega) (by omega) trivial
  have h0 : nI 0 = (0 : Int32) := nI_0
  rw [h0] at key
  exact key
