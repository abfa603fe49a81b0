/-! loops over a counter, as folds -/
def itE {R σ : Type} (F : Nat → σ → Sum R σ) (fin : σ → R) : Nat → Nat → σ → R
  | 0, _, s => fin s
  | k + 1, i, s => match F i s with
    | .inl r => r
    | .inr s' => itE F fin k (i + 1) s'
def itF {σ : Type} (F : Nat → σ → σ) : Nat → Nat → σ → σ
  | 0, _, s => s
  | k + 1, i, s => itF F k (i + 1) (F i s)
/-- a loop that may return early; L m i s: fuel, counter, state -/
theorem loopE {R σ : Type} {L : Nat → Int32 → σ → Option R} {n : Nat} {F : Nat → σ → Sum R σ} {fin : σ → R} {I : Nat → σ → Prop}
    (hend : ∀ m s, I n s → L (m + 1) (nI n) s = some (fin s))
    (hstep : ∀ m i s, i < n → I i s → (∃ r, F i s = .inl r ∧ L (m + 1) (nI i) s = some r) ∨ (∃ s', F i s = .inr s' ∧ L (m + 1) (nI i) s = L m (nI (i + 1)) s' ∧ I (i + 1) s')) :
    ∀ k i m s, i + k = n → k < m → I i s → L m (nI i) s = some (itE F fin k i s) := by
  intro k
  induction k with
  | zero =>
    intro i m s hi hm hI
    obtain ⟨m, rfl⟩ : ∃ q, m = q + 1 := ⟨m - 1, by omega⟩
    have : i = n := by omega
    subst this
    exact hend m s hI
  | succ k ih =>
    intro i m s hi hm hI
    obtain ⟨m, rfl⟩ : ∃ q, m = q + 1 := ⟨m - 1, by omega⟩
    rcases hstep m i s (by omega) hI with ⟨r, h1, h2⟩ | ⟨s', h1, h2, h3⟩
    · rw [h2, itE, h1]
    · rw [h2, itE, h1]
      exact ih (i + 1) m s' (by omega) (by omega) h3
/-- a loop to its end -/
theorem loopF {R σ : Type} {L : Nat → Int32 → σ → Option R} {n : Nat} {F : Nat → σ → σ} {fin : σ → R} {I : Nat → σ → Prop}
    (hend : ∀ m s, I n s → L (m + 1) (nI n) s = some (fin s))
    (hstep : ∀ m i s, i < n → I i s → L (m + 1) (nI i) s = L m (nI (i + 1)) (F i s) ∧ I (i + 1) (F i s)) :
    ∀ k i m s, i + k = n → k < m → I i s → L m (nI i) s = some (fin (itF F k i s)) := by
  intro k
  induction k with
  | zero =>
    intro i m s hi hm hI
    obtain ⟨m, rfl⟩ : ∃ q, m = q + 1 := ⟨m - 1, by omega⟩
    have : i = n := by omega
    subst this
    exact hend m s hI
  | succ k ih =>
    intro i m s hi hm hI
    obtain ⟨m, rfl⟩ : ∃ q, m = q + 1 := ⟨m - 1, by omega⟩
    obtain ⟨h2, h3⟩ := hstep m i s (by omega) hI
    rw [h2, itF]
    exact ih (i + 1) m (F i s) (by omega) (by omega) h3
theorem itE_congr {R σ : Type} {F G : Nat → σ → Sum R σ} {fin : σ → R} {n : Nat} (h : ∀ i s, i < n → F i s = G i s) : ∀ k i s, i + k ≤ n → itE F fin k i s = itE G fin k i s := by
  intro k
  induction k with
  | zero => intros; rfl
  | succ k ih =>
    intro i s hi
    rw [itE, itE, h i s (by omega)]
    cases G i s with
    | inl r => rfl
    | inr s' => exact ih (i + 1) s' (by omega)
theorem itF_congr {σ : Type} {F G : Nat → σ → σ} {n : Nat} (h : ∀ i s, i < n → F i s = G i s) : ∀ k i s, i + k ≤ n → itF F k i s = itF G k i s := by
  intro k
  induction k with
  | zero => intros; rfl
  | succ k ih =>
    intro i s hi
    rw [itF, itF, h i s (by omega)]
    exact ih (i + 1) _ (by omega)
/-! a street: what the pure words say of it: f 0 window, 1 look, 2 lean, 3 kept, 4 kind, 5 more -/
/-- who is at a window: the first of n -/
def s_who (W : Nat → Int32) (n : Nat) (w : Int32) : Int32 := itE (R := Int32) (σ := Unit) (fun i _ => if W i = w then .inl (nI i) else .inr ()) (fun _ => -1) n 0 ()
def s_lookers (Lk : Nat → Int32) (n : Nat) (w : Int32) : Int32 := itF (σ := Int32) (fun i a => if Lk i = w then a + 1 else a) n 0 0
/-- a street of the class, in order -/
def CS (g : e_G) (o n : Nat) : Prop := GG g ∧ IsS o ∧ g.1 o 6 = nI n ∧ n ≤ 6
theorem cs_has {g : e_G} {o n : Nat} (h : CS g o n) (p : Int32) : f_X7_has SS o p g = some (if p < 0 then 0 else if nI n ≤ p then 0 else 1, g) := by
  unfold f_X7_has
  rw [if_pos (obS h.2.1)]
  simp only [gI_ok (obS h.2.1), Option.bind_some, h.2.2.1]
  split
  · rfl
  · split <;> rfl
theorem cs_who {g : e_G} {o n : Nat} (h : CS g o n) (w : Int32) : f_X7_whoIsAt SS o w g = some (s_who (g.1 (o + 1)) n w, g) := by
  obtain ⟨hG, hS, hn, h6⟩ := h
  unfold f_X7_whoIsAt
  rw [if_pos (obS hS)]
  have key := loopE (L := fun m i (_ : Unit) => (L_X7_whoIsAt_2 m SS o w i g)) (n := n) (F := fun i _ => if g.1 (o + 1) i = w then .inl (nI i, g) else .inr ()) (fin := fun _ => ((-1 : Int32), g)) (I := fun _ _ => True)
    (fun m s _ => by
      show L_X7_whoIsAt_2 (m + 1) SS o w (nI n) g = _
      rw [L_X7_whoIsAt_2]
      simp only [gI_ok (obS hS), Option.bind_some, hn]
      rw [if_pos (nI_le (Nat.le_refl n) (by omega))])
    (fun m i s hi _ => by
      have e : L_X7_whoIsAt_2 (m + 1) SS o w (nI i) g = if g.1 (o + 1) i = w then some (nI i, g) else L_X7_whoIsAt_2 m SS o w (nI (i + 1)) g := by
        rw [L_X7_whoIsAt_2]
        simp only [gI_ok (obS hS), Option.bind_some, hn, (rfS hG hS).1]
        rw [if_neg (nI_ge hi (by omega)), aI_ok (arS hS).1 (by omega) (by omega)]
        simp only [Option.bind_some, nI_1]
      by_cases q : g.1 (o + 1) i = w
      · exact Or.inl ⟨(nI i, g), by simp [q], by show L_X7_whoIsAt_2 (m + 1) SS o w (nI i) g = _; rw [e, if_pos q]⟩
      · exact Or.inr ⟨(), by simp [q], by show L_X7_whoIsAt_2 (m + 1) SS o w (nI i) g = _; rw [e, if_neg q], trivial⟩)
    n 0 50000 () (by omega) (by omega) trivial
  have h0 : nI 0 = (0 : Int32) := nI_0
  rw [h0] at key
  refine key.trans ?_
  have e2 : ∀ k i, itE (fun i (_ : Unit) => if g.1 (o + 1) i = w then Sum.inl (nI i, g) else Sum.inr ()) (fun _ => ((-1 : Int32), g)) k i () = (itE (R := Int32) (σ := Unit) (fun i _ => if g.1 (o + 1) i = w then .inl (nI i) else .inr ()) (fun _ => -1) k i (), g) := by
    intro k
    induction k with
    | zero => intro i; rfl
    | succ k ih =>
      intro i
      rw [itE, itE]
      by_cases q : g.1 (o + 1) i = w
      · simp only [q, if_true]
      · simp only [q, if_false]
        exact ih (i + 1)
  rw [e2]
  rfl
theorem cs_lookers {g : e_G} {o n : Nat} (h : CS g o n) (w : Int32) : f_X7_lookers SS o w g = some (s_lookers (g.1 (o + 2)) n w, g) := by
  obtain ⟨hG, hS, hn, h6⟩ := h
  unfold f_X7_lookers
  rw [if_pos (obS hS)]
  have key := loopF (L := fun m i (a : Int32) => (L_X7_lookers_4 m SS o w a i g)) (n := n) (F := fun i a => if g.1 (o + 2) i = w then a + 1 else a) (fin := fun a => (a, g)) (I := fun _ _ => True)
    (fun m a _ => by
      show L_X7_lookers_4 (m + 1) SS o w a (nI n) g = _
      rw [L_X7_lookers_4]
      simp only [gI_ok (obS hS), Option.bind_some, hn]
      rw [if_pos (nI_le (Nat.le_refl n) (by omega))])
    (fun m i a hi _ => by
      refine ⟨?_, trivial⟩
      show L_X7_lookers_4 (m + 1) SS o w a (nI i) g = L_X7_lookers_4 m SS o w (if g.1 (o + 2) i = w then a + 1 else a) (nI (i + 1)) g
      rw [L_X7_lookers_4]
      simp only [gI_ok (obS hS), Option.bind_some, hn, (rfS hG hS).2.1]
      rw [if_neg (nI_ge hi (by omega)), aI_ok (arS hS).2.1 (by omega) (by omega)]
      simp only [Option.bind_some, J_X7_lookers_25, nI_1]
      split <;> rfl)
    n 0 50000 0 (by omega) (by omega) trivial
  have h0 : nI 0 = (0 : Int32) := nI_0
  rw [h0] at key
  exact key
