/-! the class's streets, as words over a street that is like -/
def SQ (f : Nat → Nat → Int32) (r : Nat → Nat → Option Nat) (o n : Nat) (tk : Nat → Nat → List (Nat × Int32)) (s : Nat → Nat → Int32) : Prop := ∃ s0, SW (f, r) o n tk s0 ∧ w_eq n s0 s
theorem SQ.le {f : Nat → Nat → Int32} {r : Nat → Nat → Option Nat} {o n : Nat} {tk : Nat → Nat → List (Nat × Int32)} {s : Nat → Nat → Int32} (h : SQ f r o n tk s) : n ≤ 6 := by
  obtain ⟨s0, h1, -⟩ := h
  exact h1.1.2.2.2
theorem SQ.cs {f : Nat → Nat → Int32} {r : Nat → Nat → Option Nat} {o n : Nat} {tk : Nat → Nat → List (Nat × Int32)} {s : Nat → Nat → Int32} (h : SQ f r o n tk s) : CS (f, r) o n := by
  obtain ⟨s0, h1, -⟩ := h
  exact h1.1
/-- a row of it -/
theorem SQ.row {f : Nat → Nat → Int32} {r : Nat → Nat → Option Nat} {o n : Nat} {tk : Nat → Nat → List (Nat × Int32)} {s : Nat → Nat → Int32} (h : SQ f r o n tk s) {j : Nat} (h1 : 1 ≤ j) (h2 : j ≤ 6) : ∀ p, p < n → f (o + j) p = s j p := by
  obtain ⟨s0, h3, h4⟩ := h
  intro p hp
  exact (congrFun (h3.2.2.1 j (by omega)) p).trans (h4.r h1 h2 p hp)
theorem SQ.ke {f f' : Nat → Nat → Int32} {r : Nat → Nat → Option Nat} {o n : Nat} {tk : Nat → Nat → List (Nat × Int32)} {s : Nat → Nat → Int32} (h : SQ f r o n tk s) (k : KE f f') : SQ f' r o n tk s := by
  obtain ⟨s0, h1, h2⟩ := h
  exact ⟨s0, h1.ke (f := f') k, h2⟩
theorem SQ.eq {f : Nat → Nat → Int32} {r : Nat → Nat → Option Nat} {o n : Nat} {tk : Nat → Nat → List (Nat × Int32)} {s t : Nat → Nat → Int32} (h : SQ f r o n tk s) (e : w_eq n s t) : SQ f r o n tk t := by
  obtain ⟨s0, h1, h2⟩ := h
  exact ⟨s0, h1, h2.trans e⟩
theorem sq_lean {f : Nat → Nat → Int32} {r : Nat → Nat → Option Nat} {o n : Nat} {tk : Nat → Nat → List (Nat × Int32)} {s : Nat → Nat → Int32} (h : SQ f r o n tk s) {p : Nat} (hp : p < n) : ∃ f', f_X7_leaning SS o (nI p) (f, r) = some (w_lean tk s n p, (f', r)) ∧ KE f f' := by
  have h6 := h.le
  obtain ⟨s0, h1, h2⟩ := h
  obtain ⟨f', a, b⟩ := cs_lean h1 hp
  exact ⟨f', by rw [a, w_lean_c h6 h2 hp], b⟩
theorem sq_hold {f : Nat → Nat → Int32} {r : Nat → Nat → Option Nat} {o n : Nat} {tk : Nat → Nat → List (Nat × Int32)} {s : Nat → Nat → Int32} (h : SQ f r o n tk s) {p : Nat} (hp : p < n) : ∃ f', f_X7_holding SS o (nI p) (f, r) = some (w_hold tk s n p, (f', r)) ∧ KE f f' := by
  obtain ⟨s0, h1, h2⟩ := h
  obtain ⟨f', a, b⟩ := cs_hold h1 hp
  exact ⟨f', by rw [a, w_hold_c h2 hp], b⟩
theorem sq_mind {f : Nat → Nat → Int32} {r : Nat → Nat → Option Nat} {o n : Nat} {tk : Nat → Nat → List (Nat × Int32)} {s : Nat → Nat → Int32} (h : SQ f r o n tk s) {p : Nat} (hp : p < n) : ∃ f', f_X7_minding SS o (nI p) (f, r) = some (w_mind tk s n p, (f', r)) ∧ KE f f' := by
  obtain ⟨s0, h1, h2⟩ := h
  obtain ⟨f', a, b⟩ := cs_mind h1 hp
  exact ⟨f', by rw [a, w_mind_c h2 hp], b⟩
theorem sq_says {f : Nat → Nat → Int32} {r : Nat → Nat → Option Nat} {o n : Nat} {tk : Nat → Nat → List (Nat × Int32)} {s : Nat → Nat → Int32} (h : SQ f r o n tk s) {p : Nat} (hp : p < n) {q : Nat} (hq : q < 3) : ∃ f', f_X7_says SS o (nI q) (nI p) (f, r) = some (s_say tk (s 0 8) q (w_nm s n p), (f', r)) ∧ KE f f' := by
  have h6 := h.le
  obtain ⟨s0, h1, h2⟩ := h
  obtain ⟨f', a, b⟩ := cs_says h1.1 h1.2.1 (p := p) (by omega) hq
  have e0 : f o 8 = s0 0 8 := congrFun (h1.2.2.1 0 (by omega)) 8
  have en : s_nm f o n p = w_nm s0 n p := h1.nm p
  refine ⟨f', ?_, b⟩
  rw [a]
  show some (s_say tk (f o 8) q (s_nm f o n p), (f', r)) = _
  rw [e0, en, w_nm_c h2 hp, h2.1.2]
theorem sq_rest {f : Nat → Nat → Int32} {r : Nat → Nat → Option Nat} {o n : Nat} {tk : Nat → Nat → List (Nat × Int32)} {s : Nat → Nat → Int32} (h : SQ f r o n tk s) : ∃ f', f_X7_mindingOfTheRest SS o (f, r) = some (w_rest tk s n, (f', r)) ∧ KE f f' := by
  obtain ⟨s0, h1, h2⟩ := h
  obtain ⟨f', a, b⟩ := cs_rest h1
  exact ⟨f', by rw [a, w_rest_c h2], b⟩
theorem sq_day {f : Nat → Nat → Int32} {r : Nat → Nat → Option Nat} {o n : Nat} {tk : Nat → Nat → List (Nat × Int32)} {s : Nat → Nat → Int32} (h : SQ f r o n tk s) : ∃ f', f_X7_passDay SS o (f, r) = some ((w_day tk n s).1, (f', r)) ∧ KP o f f' ∧ SQ f' r o n tk (w_day tk n s).2 := by
  have h6 := h.le
  obtain ⟨s0, h1, h2⟩ := h
  obtain ⟨f', a, b, c⟩ := cs_day h1
  have e := w_day_c (tk := tk) h6 h2
  exact ⟨f', by rw [a, e.1], b, _, c, e.2⟩
/-- a loop that lets a day pass at each turn: where its end answers as it should -/
theorem sq_days {R : Type} {L : Nat → Int32 → (Nat → Nat → Int32) → Option R} {P : R → Prop} {f : Nat → Nat → Int32} {r : Nat → Nat → Option Nat} {o n : Nat} {tk : Nat → Nat → List (Nat × Int32)} {s : Nat → Nat → Int32} (h : SQ f r o n tk s) {d : Nat} (hd : d < 49999)
    (hend : ∀ m a, KP o f a → SQ a r o n tk (w_days tk n d s) → ∃ x, L (m + 1) (nI d) a = some x ∧ P x)
    (hstep : ∀ m i a b w, i < d → SQ a r o n tk (w_days tk n i s) → f_X7_passDay SS o (a, r) = some (w, (b, r)) → L (m + 1) (nI i) a = L m (nI (i + 1)) b) :
    ∃ x, L 50000 0 f = some x ∧ P x := by
  have key := loopR (L := L) (n := d) (I := fun i a => KP o f a ∧ SQ a r o n tk (w_days tk n i s)) (P := P)
    (fun m a hI => hend m a hI.1 hI.2)
    (fun m i a hi hI => by
      obtain ⟨b, h1, h2, h3⟩ := sq_day hI.2
      refine ⟨b, hstep m i a b _ hi hI.2 h1, hI.1.trans h2, ?_⟩
      have e : w_days tk n (i + 1) s = (w_day tk n (w_days tk n i s)).2 := itF_next i _
      rw [e]
      exact h3)
    d 0 50000 f (by omega) (by omega) ⟨fun _ _ _ _ _ => rfl, h⟩
  have h0 : nI 0 = (0 : Int32) := nI_0
  rw [h0] at key
  exact key
theorem sq_who {f : Nat → Nat → Int32} {r : Nat → Nat → Option Nat} {o n : Nat} {tk : Nat → Nat → List (Nat × Int32)} {s : Nat → Nat → Int32} (h : SQ f r o n tk s) (w : Int32) : f_X7_whoIsAt SS o w (f, r) = some (s_who (s 1) n w, (f, r)) := by
  rw [cs_who h.cs, s_who_c (W := (f, r).1 (o + 1)) (h.row (j := 1) (by omega) (by omega))]
theorem sq_meets {f : Nat → Nat → Int32} {r : Nat → Nat → Option Nat} {o n : Nat} {tk : Nat → Nat → List (Nat × Int32)} {s : Nat → Nat → Int32} (h : SQ f r o n tk s) : f_X7_meetings SS o (f, r) = some (s_meets (s 1) (s 2) n, (f, r)) := by
  rw [cs_meets h.cs, s_meets_c (W := (f, r).1 (o + 1)) (L := (f, r).1 (o + 2)) h.le (h.row (j := 1) (by omega) (by omega)) (h.row (j := 2) (by omega) (by omega))]
theorem sq_cross {f : Nat → Nat → Int32} {r : Nat → Nat → Option Nat} {o n : Nat} {tk : Nat → Nat → List (Nat × Int32)} {s : Nat → Nat → Int32} (h : SQ f r o n tk s) : f_X7_crossings SS o (f, r) = some (s_cross (s 1) (s 2) n, (f, r)) := by
  rw [cs_cross h.cs, s_cross_c (W := (f, r).1 (o + 1)) (L := (f, r).1 (o + 2)) (h.row (j := 1) (by omega) (by omega)) (h.row (j := 2) (by omega) (by omega))]
theorem sq_most {f : Nat → Nat → Int32} {r : Nat → Nat → Option Nat} {o n : Nat} {tk : Nat → Nat → List (Nat × Int32)} {s : Nat → Nat → Int32} (h : SQ f r o n tk s) : f_X7_mostLookedAt SS o (f, r) = some ((s_most (s 2) n).2, (f, r)) := by
  rw [cs_most h.cs, s_most_c (L := (f, r).1 (o + 2)) (h.row (j := 2) (by omega) (by omega))]
theorem sq_lookers {f : Nat → Nat → Int32} {r : Nat → Nat → Option Nat} {o n : Nat} {tk : Nat → Nat → List (Nat × Int32)} {s : Nat → Nat → Int32} (h : SQ f r o n tk s) (w : Int32) : f_X7_lookers SS o w (f, r) = some (s_lookers (s 2) n w, (f, r)) := by
  rw [cs_lookers h.cs, s_lookers_c (W := (f, r).1 (o + 2)) (h.row (j := 2) (by omega) (by omega))]
theorem sq_unseen {f : Nat → Nat → Int32} {r : Nat → Nat → Option Nat} {o n : Nat} {tk : Nat → Nat → List (Nat × Int32)} {s : Nat → Nat → Int32} (h : SQ f r o n tk s) : f_X7_unseen SS o (f, r) = some (s_unseen (s 1) (s 2) n, (f, r)) := by
  rw [cs_unseen h.cs, s_unseen_c (W := (f, r).1 (o + 1)) (L := (f, r).1 (o + 2)) (h.row (j := 1) (by omega) (by omega)) (h.row (j := 2) (by omega) (by omega))]
theorem sq_bits {f : Nat → Nat → Int32} {r : Nat → Nat → Option Nat} {o n : Nat} {tk : Nat → Nat → List (Nat × Int32)} {s : Nat → Nat → Int32} (h : SQ f r o n tk s) : f_X7_keptBits SS o (f, r) = some (s_bits (s 6) n, (f, r)) := by
  rw [cs_bits h.cs, s_bits_c (K := (f, r).1 (o + 6)) (h.row (j := 6) (by omega) (by omega))]
theorem sq_sum {f : Nat → Nat → Int32} {r : Nat → Nat → Option Nat} {o n : Nat} {tk : Nat → Nat → List (Nat × Int32)} {s : Nat → Nat → Int32} (h : SQ f r o n tk s) : f_X7_leanOfAll SS o (f, r) = some (s_sum (s 3) n, (f, r)) := by
  rw [cs_sum h.cs, s_sum_c (K := (f, r).1 (o + 3)) (h.row (j := 3) (by omega) (by omega))]
theorem sq_mayBe {f : Nat → Nat → Int32} {r : Nat → Nat → Option Nat} {o n : Nat} {tk : Nat → Nat → List (Nat × Int32)} {s : Nat → Nat → Int32} (h : SQ f r o n tk s) {p : Nat} (hp : p < n) (w : Int32) : f_X7_mayBeAt SS o (nI p) w (f, r) = some (s_mayBe (s 1) n p w, (f, r)) := by
  have := h.le
  rw [cs_mayBe h.cs (p := p) (by omega), s_mayBe_c (W := (f, r).1 (o + 1)) (h.row (j := 1) (by omega) (by omega)) hp]
theorem sq_mayLook {f : Nat → Nat → Int32} {r : Nat → Nat → Option Nat} {o n : Nat} {tk : Nat → Nat → List (Nat × Int32)} {s : Nat → Nat → Int32} (h : SQ f r o n tk s) {p : Nat} (hp : p < n) (w : Int32) : f_X7_mayLookAt SS o (nI p) w (f, r) = some (s_opp (s 1 p) w, (f, r)) := by
  have := h.le
  rw [cs_mayLook h.cs (p := p) (by omega)]
  rw [show (f, r).1 (o + 1) p = s 1 p from h.row (j := 1) (by omega) (by omega) p hp]
theorem SQ.up {f : Nat → Nat → Int32} {r : Nat → Nat → Option Nat} {o n : Nat} {tk : Nat → Nat → List (Nat × Int32)} {s : Nat → Nat → Int32} (h : SQ f r o n tk s) {j : Nat} (hj : j = 1 ∨ j = 2 ∨ j = 3 ∨ j = 5 ∨ j = 6) (i : Nat) (v : Int32) : SQ (e_up f (o + j) i v) r o n tk (e_up s j i v) := by
  obtain ⟨s0, h1, h2⟩ := h
  exact ⟨_, h1.up hj i v, h2.up j i v⟩
/-- what thinking leaves of the class as it was -/
def KT (f f' : Nat → Nat → Int32) : Prop := ∀ b, NS b → (b < 60 ∨ 67 ≤ b) → f' b = f b
theorem KT.rfl' {f : Nat → Nat → Int32} : KT f f := fun _ _ _ => rfl
theorem KT.trans {f f' f'' : Nat → Nat → Int32} (h : KT f f') (k : KT f' f'') : KT f f'' := fun b h1 h2 => (k b h1 h2).trans (h b h1 h2)
theorem KT.ke {f f' : Nat → Nat → Int32} (h : KE f f') : KT f f' := fun b h1 _ => h b h1
theorem KT.kp {f f' : Nat → Nat → Int32} (h : KP 60 f f') : KT f f' := fun b h1 h2 => h b h1 (by omega) (by omega) (by omega)
theorem KT.up {f : Nat → Nat → Int32} {j k : Nat} {v : Int32} (hj : j < 7) : KT f (e_up f (60 + j) k v) := fun b _ h2 => e_up_row (by omega)
theorem SQ.kt {f f' : Nat → Nat → Int32} {r : Nat → Nat → Option Nat} {o n : Nat} {tk : Nat → Nat → List (Nat × Int32)} {s : Nat → Nat → Int32} (h : SQ f r o n tk s) (ho : o = 52 ∨ o = 68) (k : KT f f') : SQ f' r o n tk s := by
  obtain ⟨s0, h1, h2⟩ := h
  have ns : ∀ j, j < 7 → f' (o + j) = f (o + j) := fun j hj => k _ (by unfold NS; omega) (by omega)
  have n0 : f' o = f o := ns 0 (by omega)
  refine ⟨s0, ⟨⟨h1.1.1, h1.1.2.1, ?_, h1.1.2.2.2⟩, ?_, fun j hj => (ns j hj).trans (h1.2.2.1 j hj), h1.2.2.2⟩, h2⟩
  · show f' o 6 = _
    rw [n0]
    exact h1.1.2.2.1
  · intro t ht e
    have := h1.2.1 t ht ((congrFun n0 8).symm.trans e)
    refine ⟨⟨this.1.1, fun p hp => ?_, fun p hp j hj => ?_⟩, this.2⟩
    · show f' _ _ = _
      rw [k _ (by unfold NS; omega) (by omega)]
      exact this.1.2.1 p hp
    · show f' _ _ = _ ∧ f' _ _ = _ ∧ _
      rw [k (8 + 5 * t) (by unfold NS; omega) (by omega), k (9 + 5 * t) (by unfold NS; omega) (by omega)]
      exact this.1.2.2 p hp j hj
/-- a street becomes as another is -/
theorem sq_bec {f : Nat → Nat → Int32} {r : Nat → Nat → Option Nat} {o q n : Nat} {tk : Nat → Nat → List (Nat × Int32)} {s : Nat → Nat → Int32} (h : SQ f r q n tk s) (hw : w_wf n s) (hS : IsS o) (hne : o ≠ q) : ∃ f', f_X7_become SS o q (f, r) = some (f', r) ∧ (∀ b, b < o ∨ o + 7 ≤ b → f' b = f b) ∧ SQ f' r o n tk s := by
  have h6 := h.le
  obtain ⟨s0, h1, h2⟩ := h
  have hQ := h1.1.2.1
  have hb := hS.big
  have rq : ∀ j, j < 7 → f (q + j) = s0 j := h1.2.2.1
  have rq0 : f q = s0 0 := rq 0 (by omega)
  obtain ⟨f', a, b, c⟩ := cs_bec h1.1.1 hS hQ hne h1.1.2.2.1 h6 (fun p hp => by
    show f (q + 6) p = 0 ∨ f (q + 6) p = 1
    rw [rq 6 (by omega), h2.r (j := 6) (by omega) (by omega) p hp]
    exact (hw.1 p hp).2.1)
  refine ⟨f', a, b, _, ⟨⟨h1.1.1, hS, ?_, h6⟩, ?_, c, ?_⟩, ?_⟩
  · show f' o 6 = nI n
    have := congrFun (c 0 (by omega)) 6
    unfold w_bec at this
    rw [if_pos rfl, if_pos (Or.inl rfl)] at this
    exact this.trans h1.1.2.2.1
  · intro t ht e
    have e8 : f' o 8 = f q 8 := by
      have := congrFun (c 0 (by omega)) 8
      unfold w_bec at this
      rw [if_pos rfl, if_pos (Or.inr (Or.inr rfl))] at this
      exact this
    have := h1.2.1 t ht (e8.symm.trans e)
    refine ⟨⟨this.1.1, fun p hp => ?_, fun p hp j hj => ?_⟩, this.2⟩
    · show f' _ _ = _
      rw [b _ (by omega)]
      exact this.1.2.1 p hp
    · show f' _ _ = _ ∧ f' _ _ = _ ∧ _
      rw [b (8 + 5 * t) (by omega), b (9 + 5 * t) (by omega)]
      exact this.1.2.2 p hp j hj
  · intro p hp
    unfold w_bec
    rw [if_neg (by omega), if_pos hp]
    obtain ⟨k, hk, e⟩ := h1.2.2.2 p hp
    exact ⟨k, hk, (congrFun (rq 4 (by omega)) p).trans e⟩
  · refine w_eq.trans (t := s0) ⟨⟨?_, ?_⟩, fun j j1 j2 p hp => ?_⟩ h2
    · unfold w_bec
      rw [if_pos rfl, if_pos (Or.inr (Or.inl rfl))]
      exact congrFun rq0 7
    · unfold w_bec
      rw [if_pos rfl, if_pos (Or.inr (Or.inr rfl))]
      exact congrFun rq0 8
    · unfold w_bec
      rw [if_neg (by omega), if_pos hp]
      exact congrFun (rq j (by omega)) p
/-- the thought becomes as the street is -/
theorem sq_think {f : Nat → Nat → Int32} {r : Nat → Nat → Option Nat} {n : Nat} {tk : Nat → Nat → List (Nat × Int32)} {s : Nat → Nat → Int32} (h : SQ f r 52 n tk s) (hw : w_wf n s) : ∃ f', f_X7_become SS 60 52 (f, r) = some (f', r) ∧ KT f f' ∧ SQ f' r 60 n tk s := by
  obtain ⟨f', a, b, c⟩ := sq_bec (o := 60) h hw (Or.inr (Or.inl rfl)) (by omega)
  exact ⟨f', a, fun q _ hq => b q (by omega), c⟩
