theorem s_who_cases (W : Nat → Int32) (w : Int32) : ∀ k i, (itE (R := Int32) (σ := Unit) (fun i _ => if W i = w then .inl (nI i) else .inr ()) (fun _ => -1) k i () = -1 ∧ ∀ j, i ≤ j → j < i + k → W j ≠ w) ∨ ∃ j, i ≤ j ∧ j < i + k ∧ itE (R := Int32) (σ := Unit) (fun i _ => if W i = w then .inl (nI i) else .inr ()) (fun _ => -1) k i () = nI j ∧ W j = w ∧ ∀ q, i ≤ q → q < j → W q ≠ w := by
  intro k
  induction k with
  | zero => intro i; exact Or.inl ⟨rfl, fun j h1 h2 => by omega⟩
  | succ k ih =>
    intro i
    rw [itE]
    by_cases q : W i = w
    · exact Or.inr ⟨i, Nat.le_refl i, by omega, by simp only [q, if_true], q, fun z h1 h2 => by omega⟩
    · simp only [q, if_false]
      rcases ih (i + 1) with ⟨h1, h2⟩ | ⟨j, h1, h2, h3, h4, h5⟩
      · refine Or.inl ⟨h1, fun j g1 g2 => ?_⟩
        by_cases e : j = i
        · rw [e]; exact q
        · exact h2 j (by omega) (by omega)
      · refine Or.inr ⟨j, by omega, by omega, h3, h4, fun z g1 g2 => ?_⟩
        by_cases e : z = i
        · rw [e]; exact q
        · exact h5 z (by omega) g2
/-- nobody, or the first who is there -/
theorem s_who_or (W : Nat → Int32) (n : Nat) (w : Int32) : (s_who W n w = -1 ∧ ∀ j, j < n → W j ≠ w) ∨ ∃ j, j < n ∧ s_who W n w = nI j ∧ W j = w ∧ ∀ q, q < j → W q ≠ w := by
  rcases s_who_cases W w n 0 with ⟨h1, h2⟩ | ⟨j, h1, h2, h3, h4, h5⟩
  · exact Or.inl ⟨h1, fun j h => h2 j (Nat.zero_le j) (by omega)⟩
  · exact Or.inr ⟨j, by omega, h3, h4, fun q h => h5 q (Nat.zero_le q) h⟩
theorem nI_ne_m1 {j : Nat} (h : j < 2 ^ 31) : ¬ nI j = -1 := by
  intro q
  have h1 := nI_pos (n := j) h
  rw [q] at h1
  exact h1 (by decide)
def s_win (w : Int32) : Int32 := if w < 0 then 0 else if 20 ≤ w then 0 else 1
def s_opp (a b : Int32) : Int32 := if a < 0 ∨ 20 ≤ a ∨ b < 0 ∨ 20 ≤ b ∨ a / 10 = b / 10 then 0 else 1
theorem cs_win (w : Int32) (g : e_G) : f_X7_isWindow SS w g = some (s_win w, g) := by
  unfold f_X7_isWindow s_win
  split
  · rfl
  · split <;> rfl
theorem cs_opp (a b : Int32) (g : e_G) : f_X7_areOpposite SS a b g = some (s_opp a b, g) := by
  unfold f_X7_areOpposite
  simp only [cs_win, Option.bind_some]
  unfold s_win s_opp
  by_cases h1 : a < 0
  · simp [h1]
  · by_cases h2 : (20 : Int32) ≤ a
    · simp [h1, h2]
    · by_cases h3 : b < 0
      · simp [h1, h2, h3]
      · by_cases h4 : (20 : Int32) ≤ b
        · simp [h1, h2, h3, h4]
        · by_cases h5 : a / 10 = b / 10
          · simp [h1, h2, h3, h4, h5]
          · simp [h1, h2, h3, h4, h5]
theorem s_opp01 (a b : Int32) : s_opp a b = 0 ∨ s_opp a b = 1 := by
  unfold s_opp
  split
  · exact Or.inl rfl
  · exact Or.inr rfl
theorem cs_mayLook {g : e_G} {o n : Nat} (h : CS g o n) {p : Nat} (hp : p < 6) (w : Int32) : f_X7_mayLookAt SS o (nI p) w g = some (s_opp (g.1 (o + 1) p) w, g) := by
  obtain ⟨hG, hS, hn, h6⟩ := h
  unfold f_X7_mayLookAt
  rw [if_pos (obS hS)]
  simp only [(rfS hG hS).1, Option.bind_some, aI_ok (arS hS).1 hp (by omega), cs_opp]
  rw [if_pos (s_opp01 _ _)]
/-- may one be at a window: of this side, nobody there or oneself -/
def s_mayBe (W : Nat → Int32) (n p : Nat) (w : Int32) : Int32 := if w < 0 ∨ 20 ≤ w ∨ ¬ w / 10 = W p / 10 then 0 else if s_who W n w = -1 ∨ s_who W n w = nI p then 1 else 0
theorem cs_mayBe {g : e_G} {o n : Nat} (h : CS g o n) {p : Nat} (hp : p < 6) (w : Int32) : f_X7_mayBeAt SS o (nI p) w g = some (s_mayBe (g.1 (o + 1)) n p w, g) := by
  have hw := cs_who h
  obtain ⟨hG, hS, hn, h6⟩ := h
  unfold f_X7_mayBeAt
  rw [if_pos (obS hS)]
  simp only [cs_win, Option.bind_some, (rfS hG hS).1, aI_ok (arS hS).1 hp (by omega : 6 < 2 ^ 31), hw, J_X7_mayBeAt_41]
  unfold s_win s_mayBe
  by_cases h1 : w < 0
  · simp [h1]
  · by_cases h2 : (20 : Int32) ≤ w
    · simp [h1, h2]
    · by_cases h3 : w / 10 = g.1 (o + 1) p / 10
      · by_cases h4 : s_who (g.1 (o + 1)) n w = -1
        · simp [h1, h2, h3, h4]
        · by_cases h5 : s_who (g.1 (o + 1)) n w = nI p
          · simp [h1, h2, h3, h4, h5]
          · simp [h1, h2, h3, h4, h5]
      · simp [h1, h2, h3]
/-- is one met -/
def s_met (W Lk : Nat → Int32) (n p : Nat) : Int32 := if s_who W n (Lk p) = -1 then 0 else if Lk (s_who W n (Lk p)).toNatClampNeg = W p then 1 else 0
theorem cs_met {g : e_G} {o n : Nat} (h : CS g o n) {p : Nat} (hp : p < 6) : f_X7_isMet SS o (nI p) g = some (s_met (g.1 (o + 1)) (g.1 (o + 2)) n p, g) := by
  have hw := cs_who h
  obtain ⟨hG, hS, hn, h6⟩ := h
  unfold f_X7_isMet s_met
  rw [if_pos (obS hS)]
  simp only [(rfS hG hS).2.1, (rfS hG hS).1, Option.bind_some, aI_ok (arS hS).2.1 hp (by omega : 6 < 2 ^ 31), aI_ok (arS hS).1 hp (by omega : 6 < 2 ^ 31), hw]
  rcases s_who_or (g.1 (o + 1)) n (g.1 (o + 2) p) with ⟨h1, -⟩ | ⟨j, h1, h2, -⟩
  · simp [h1]
  · rw [h2, if_neg (nI_ne_m1 (by omega)), if_neg (nI_ne_m1 (by omega)), aI_ok (arS hS).2.1 (by omega) (by omega : 6 < 2 ^ 31), nI_clamp (by omega)]
    simp only [Option.bind_some]
    split <;> rfl
/-- those kept beside one -/
def s_beside (W Kp : Nat → Int32) (n p : Nat) : Int32 := itF (σ := Int32) (fun i a => if Kp i = 0 then a else if W i / 10 = W p / 10 then (if i_abs (W i - W p) = 1 then a + 1 else a) else a) n 0 0
theorem cs_beside {g : e_G} {o n : Nat} (h : CS g o n) {p : Nat} (hp : p < 6) : f_X7_beside SS o (nI p) g = some (s_beside (g.1 (o + 1)) (g.1 (o + 6)) n p, g) := by
  obtain ⟨hG, hS, hn, h6⟩ := h
  unfold f_X7_beside
  rw [if_pos (obS hS)]
  have key := loopF (L := fun m i (a : Int32) => (L_X7_beside_4 m SS o (nI p) a i g)) (n := n) (F := fun i a => if g.1 (o + 6) i = 0 then a else if g.1 (o + 1) i / 10 = g.1 (o + 1) p / 10 then (if i_abs (g.1 (o + 1) i - g.1 (o + 1) p) = 1 then a + 1 else a) else a) (fin := fun a => (a, g)) (I := fun _ _ => True)
    (fun m a _ => by
      show L_X7_beside_4 (m + 1) SS o (nI p) a (nI n) g = _
      rw [L_X7_beside_4]
      simp only [gI_ok (obS hS), Option.bind_some, hn]
      rw [if_pos (nI_le (Nat.le_refl n) (by omega))])
    (fun m i a hi _ => by
      refine ⟨?_, trivial⟩
      show L_X7_beside_4 (m + 1) SS o (nI p) a (nI i) g = L_X7_beside_4 m SS o (nI p) (if g.1 (o + 6) i = 0 then a else if g.1 (o + 1) i / 10 = g.1 (o + 1) p / 10 then (if i_abs (g.1 (o + 1) i - g.1 (o + 1) p) = 1 then a + 1 else a) else a) (nI (i + 1)) g
      rw [L_X7_beside_4]
      simp only [gI_ok (obS hS), Option.bind_some, hn]
      rw [if_neg (nI_ge hi (by omega))]
      simp only [(rfS hG hS).1, (rfS hG hS).2.2.2.2.2.1, Option.bind_some, aI_ok (arS hS).1 hp (by omega : 6 < 2 ^ 31), aI_ok (arS hS).1 (show i < 6 by omega) (by omega : 6 < 2 ^ 31), aI_ok (arS hS).2.2.2.2.2.1 (show i < 6 by omega) (by omega : 6 < 2 ^ 31), J_X7_beside_68, nI_1]
      split
      · rfl
      · split
        · split <;> rfl
        · rfl)
    n 0 50000 0 (by omega) (by omega) trivial
  have h0 : nI 0 = (0 : Int32) := nI_0
  rw [h0] at key
  exact key
def s_bits (Kp : Nat → Int32) (n : Nat) : Int32 := itF (σ := Int32) (fun i a => if Kp i = 0 then a else a ||| ((1 : Int32) <<< (nI i &&& 31))) n 0 0
theorem cs_bits {g : e_G} {o n : Nat} (h : CS g o n) : f_X7_keptBits SS o g = some (s_bits (g.1 (o + 6)) n, g) := by
  obtain ⟨hG, hS, hn, h6⟩ := h
  unfold f_X7_keptBits
  rw [if_pos (obS hS)]
  have key := loopF (L := fun m i (a : Int32) => (L_X7_keptBits_4 m SS o a i g)) (n := n) (F := fun i a => if g.1 (o + 6) i = 0 then a else a ||| ((1 : Int32) <<< (nI i &&& 31))) (fin := fun a => (a, g)) (I := fun _ _ => True)
    (fun m a _ => by
      show L_X7_keptBits_4 (m + 1) SS o a (nI n) g = _
      rw [L_X7_keptBits_4]
      simp only [gI_ok (obS hS), Option.bind_some, hn]
      rw [if_pos (nI_le (Nat.le_refl n) (by omega))])
    (fun m i a hi _ => by
      refine ⟨?_, trivial⟩
      show L_X7_keptBits_4 (m + 1) SS o a (nI i) g = L_X7_keptBits_4 m SS o (if g.1 (o + 6) i = 0 then a else a ||| ((1 : Int32) <<< (nI i &&& 31))) (nI (i + 1)) g
      rw [L_X7_keptBits_4]
      simp only [gI_ok (obS hS), Option.bind_some, hn]
      rw [if_neg (nI_ge hi (by omega))]
      simp only [(rfS hG hS).2.2.2.2.2.1, Option.bind_some, aI_ok (arS hS).2.2.2.2.2.1 (show i < 6 by omega) (by omega : 6 < 2 ^ 31), J_X7_keptBits_27, nI_1]
      split <;> rfl)
    n 0 50000 0 (by omega) (by omega) trivial
  have h0 : nI 0 = (0 : Int32) := nI_0
  rw [h0] at key
  exact key
def s_sum (Ln : Nat → Int32) (n : Nat) : Int32 := itF (σ := Int32) (fun i a => a + Ln i) n 0 0
theorem cs_sum {g : e_G} {o n : Nat} (h : CS g o n) : f_X7_leanOfAll SS o g = some (s_sum (g.1 (o + 3)) n, g) := by
  obtain ⟨hG, hS, hn, h6⟩ := h
  unfold f_X7_leanOfAll
  rw [if_pos (obS hS)]
  have key := loopF (L := fun m i (a : Int32) => (L_X7_leanOfAll_4 m SS o a i g)) (n := n) (F := fun i a => a + g.1 (o + 3) i) (fin := fun a => (a, g)) (I := fun _ _ => True)
    (fun m a _ => by
      show L_X7_leanOfAll_4 (m + 1) SS o a (nI n) g = _
      rw [L_X7_leanOfAll_4]
      simp only [gI_ok (obS hS), Option.bind_some, hn]
      rw [if_pos (nI_le (Nat.le_refl n) (by omega))])
    (fun m i a hi _ => by
      refine ⟨?_, trivial⟩
      show L_X7_leanOfAll_4 (m + 1) SS o a (nI i) g = L_X7_leanOfAll_4 m SS o (a + g.1 (o + 3) i) (nI (i + 1)) g
      rw [L_X7_leanOfAll_4]
      simp only [gI_ok (obS hS), Option.bind_some, hn]
      rw [if_neg (nI_ge hi (by omega))]
      simp only [(rfS hG hS).2.2.1, Option.bind_some, aI_ok (arS hS).2.2.1 (show i < 6 by omega) (by omega : 6 < 2 ^ 31), nI_1])
    n 0 50000 0 (by omega) (by omega) trivial
  have h0 : nI 0 = (0 : Int32) := nI_0
  rw [h0] at key
  exact key
def s_unseen (W Lk : Nat → Int32) (n : Nat) : Int32 := itF (σ := Int32) (fun i a => if s_lookers Lk n (W i) = 0 then a ||| ((1 : Int32) <<< (nI i &&& 31)) else a) n 0 0
theorem cs_unseen {g : e_G} {o n : Nat} (h : CS g o n) : f_X7_unseen SS o g = some (s_unseen (g.1 (o + 1)) (g.1 (o + 2)) n, g) := by
  have hlk := cs_lookers h
  obtain ⟨hG, hS, hn, h6⟩ := h
  unfold f_X7_unseen
  rw [if_pos (obS hS)]
  have key := loopF (L := fun m i (a : Int32) => (L_X7_unseen_4 m SS o a i g)) (n := n) (F := fun i a => if s_lookers (g.1 (o + 2)) n (g.1 (o + 1) i) = 0 then a ||| ((1 : Int32) <<< (nI i &&& 31)) else a) (fin := fun a => (a, g)) (I := fun _ _ => True)
    (fun m a _ => by
      show L_X7_unseen_4 (m + 1) SS o a (nI n) g = _
      rw [L_X7_unseen_4]
      simp only [gI_ok (obS hS), Option.bind_some, hn]
      rw [if_pos (nI_le (Nat.le_refl n) (by omega))])
    (fun m i a hi _ => by
      refine ⟨?_, trivial⟩
      show L_X7_unseen_4 (m + 1) SS o a (nI i) g = L_X7_unseen_4 m SS o (if s_lookers (g.1 (o + 2)) n (g.1 (o + 1) i) = 0 then a ||| ((1 : Int32) <<< (nI i &&& 31)) else a) (nI (i + 1)) g
      rw [L_X7_unseen_4]
      simp only [gI_ok (obS hS), Option.bind_some, hn]
      rw [if_neg (nI_ge hi (by omega))]
      simp only [(rfS hG hS).1, Option.bind_some, aI_ok (arS hS).1 (show i < 6 by omega) (by omega : 6 < 2 ^ 31), hlk, J_X7_unseen_31, nI_1]
      split <;> rfl)
    n 0 50000 0 (by omega) (by omega) trivial
  have h0 : nI 0 = (0 : Int32) := nI_0
  rw [h0] at key
  exact key
/-- twos met, told from the lesser number -/
def s_meets (W Lk : Nat → Int32) (n : Nat) : Int32 := itF (σ := Int32) (fun i a => if s_met W Lk n i = 0 then a else if s_who W n (Lk i) ≤ nI i then a else a + 1) n 0 0
theorem cs_meets {g : e_G} {o n : Nat} (h : CS g o n) : f_X7_meetings SS o g = some (s_meets (g.1 (o + 1)) (g.1 (o + 2)) n, g) := by
  have hmt := @cs_met g o n h
  have hw := cs_who h
  obtain ⟨hG, hS, hn, h6⟩ := h
  unfold f_X7_meetings
  rw [if_pos (obS hS)]
  have key := loopF (L := fun m i (a : Int32) => (L_X7_meetings_4 m SS o a i g)) (n := n) (F := fun i a => if s_met (g.1 (o + 1)) (g.1 (o + 2)) n i = 0 then a else if s_who (g.1 (o + 1)) n (g.1 (o + 2) i) ≤ nI i then a else a + 1) (fin := fun a => (a, g)) (I := fun _ _ => True)
    (fun m a _ => by
      show L_X7_meetings_4 (m + 1) SS o a (nI n) g = _
      rw [L_X7_meetings_4]
      simp only [gI_ok (obS hS), Option.bind_some, hn]
      rw [if_pos (nI_le (Nat.le_refl n) (by omega))])
    (fun m i a hi _ => by
      refine ⟨?_, trivial⟩
      show L_X7_meetings_4 (m + 1) SS o a (nI i) g = L_X7_meetings_4 m SS o (if s_met (g.1 (o + 1)) (g.1 (o + 2)) n i = 0 then a else if s_who (g.1 (o + 1)) n (g.1 (o + 2) i) ≤ nI i then a else a + 1) (nI (i + 1)) g
      rw [L_X7_meetings_4]
      simp only [gI_ok (obS hS), Option.bind_some, hn]
      rw [if_neg (nI_ge hi (by omega))]
      simp only [(rfS hG hS).2.1, Option.bind_some, aI_ok (arS hS).2.1 (show i < 6 by omega) (by omega : 6 < 2 ^ 31), hmt (show i < 6 by omega), hw, J_X7_meetings_37, nI_1]
      split
      · rfl
      · split <;> rfl)
    n 0 50000 0 (by omega) (by omega) trivial
  have h0 : nI 0 = (0 : Int32) := nI_0
  rw [h0] at key
  exact key
