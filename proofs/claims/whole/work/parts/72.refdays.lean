/-! days in the reference -/
theorem w_wf.up3 {n : Nat} {s : Nat → Nat → Int32} (h : w_wf n s) (i : Nat) {l : Nat} (hl : l < 100) : w_wf n (e_up s 3 i (nI l)) := by
  refine ⟨fun p hp => ?_, h.2⟩
  obtain ⟨h1, h2, h3, h4, l0, h5, h6⟩ := h.1 p hp
  refine ⟨h1, h2, h3, h4, ?_⟩
  rw [e_up_at]
  split
  · exact ⟨l, hl, rfl⟩
  · exact ⟨l0, h5, h6⟩
theorem w_wf.up6 {n : Nat} {s : Nat → Nat → Int32} (h : w_wf n s) (i : Nat) : w_wf n (e_up s 6 i 1) := by
  refine ⟨fun p hp => ?_, h.2⟩
  obtain ⟨h1, h2, h3⟩ := h.1 p hp
  refine ⟨h1, ?_, h3⟩
  rw [e_up_at]
  split
  · exact Or.inr rfl
  · exact h2
theorem w_wf.up0 {n : Nat} {s : Nat → Nat → Int32} (h : w_wf n s) (k : Nat) (v : Int32) : w_wf n (e_up s 0 k v) := h
theorem ms_up {c j : Nat} (hc : (c = 0 ∧ j = 1) ∨ (c = 1 ∧ j = 2) ∨ (c = 2 ∧ j = 3) ∨ (c = 3 ∧ j = 6)) (f : Nat → Nat → Int32) (n i : Nat) (v : Int32) : w_eq n (m_s (e_up f 79 (4 * i + c) v)) (e_up (m_s f) j i v) := by
  have row : ∀ b, b ≠ 79 → e_up f 79 (4 * i + c) v b = f b := fun b hb => e_up_row hb
  have at1 : ∀ k d, d < 4 → e_up f 79 (4 * i + c) v 79 (4 * k + d) = if d = c ∧ k = i then v else f 79 (4 * k + d) := by
    intro k d hd
    rw [e_up_at]
    by_cases z : d = c ∧ k = i
    · rw [if_pos (by omega), if_pos z]
    · rw [if_neg (by omega), if_neg z]
  refine ⟨⟨?_, ?_⟩, fun b b1 b2 p hp => ?_⟩
  · rw [e_up_ne (Or.inl (by omega))]
    show e_up f 79 (4 * i + c) v 76 4 = f 76 4
    rw [row 76 (by omega)]
  · rw [e_up_ne (Or.inl (by omega))]
    show e_up f 79 (4 * i + c) v 76 10 = f 76 10
    rw [row 76 (by omega)]
  · have go : ∀ d, d < 4 → m_s (e_up f 79 (4 * i + c) v) b p = e_up f 79 (4 * i + c) v 79 (4 * p + d) → m_s f b p = f 79 (4 * p + d) → ((d = c) ↔ (b = j)) → m_s (e_up f 79 (4 * i + c) v) b p = e_up (m_s f) j i v b p := by
      intro d hd e1 e2 e3
      rw [e1, at1 p d hd]
      unfold e_up
      by_cases z : d = c ∧ p = i
      · rw [if_pos z, if_pos ⟨e3.mp z.1, z.2⟩]
      · rw [if_neg z, if_neg (fun y => z ⟨e3.mpr y.1, y.2⟩), e2]
    match b, b1, b2 with
    | 1, _, _ => exact go 0 (by omega) rfl rfl (by omega)
    | 2, _, _ => exact go 1 (by omega) rfl rfl (by omega)
    | 3, _, _ => exact go 2 (by omega) rfl rfl (by omega)
    | 4, _, _ =>
      rw [e_up_ne (Or.inl (by omega))]
      show e_up f 79 (4 * i + c) v 77 p = f 77 p
      rw [row 77 (by omega)]
    | 5, _, _ =>
      rw [e_up_ne (Or.inl (by omega))]
      show e_up f 79 (4 * i + c) v 78 p = f 78 p
      rw [row 78 (by omega)]
    | 6, _, _ => exact go 3 (by omega) rfl rfl (by omega)
theorem MW.up {f : Nat → Nat → Int32} {r : Nat → Nat → Option Nat} {n : Nat} {tk : Nat → Nat → List (Nat × Int32)} {s : Nat → Nat → Int32} (h : MW f r n tk s) {c j : Nat} (hc : (c = 0 ∧ j = 1) ∨ (c = 1 ∧ j = 2) ∨ (c = 2 ∧ j = 3) ∨ (c = 3 ∧ j = 6)) (i : Nat) (v : Int32) (hw : w_wf n (e_up s j i v)) : MW (e_up f 79 (4 * i + c) v) r n tk (e_up s j i v) := by
  obtain ⟨h1, h2, h3, t, h4, h5, h6, h7⟩ := h
  have row : ∀ b, b ≠ 79 → e_up f 79 (4 * i + c) v b = f b := fun b hb => e_up_row hb
  refine ⟨⟨h1.1, ?_, h1.2.2⟩, (ms_up hc f n i v).trans (h2.up j i v), hw, t, h4, ?_, h6.of (row 81 (by omega)) (row 82 (by omega)), h7⟩
  · show e_up f 79 (4 * i + c) v 76 0 = _
    rw [row 76 (by omega)]
    exact h1.2.1
  · rw [row 76 (by omega)]
    exact h5
theorem MW.day {f : Nat → Nat → Int32} {r : Nat → Nat → Option Nat} {n : Nat} {tk : Nat → Nat → List (Nat × Int32)} {s : Nat → Nat → Int32} (h : MW f r n tk s) (v : Int32) : MW (e_up f 76 4 v) r n tk (e_up s 0 7 v) := by
  obtain ⟨h1, h2, h3, t, h4, h5, h6, h7⟩ := h
  have row : ∀ b, b ≠ 76 → e_up f 76 4 v b = f b := fun b hb => e_up_row hb
  refine ⟨⟨h1.1, ?_, h1.2.2⟩, ?_, h3, t, h4, ?_, h6.of (row 81 (by omega)) (row 82 (by omega)), h7⟩
  · show e_up f 76 4 v 76 0 = _
    rw [e_up_ne (Or.inr (by omega))]
    exact h1.2.1
  · refine w_eq.trans (t := e_up (m_s f) 0 7 v) ⟨⟨?_, ?_⟩, fun b b1 b2 p hp => ?_⟩ (h2.up 0 7 v)
    · rw [e_up_eq]
      show e_up f 76 4 v 76 4 = v
      rw [e_up_eq]
    · rw [e_up_ne (Or.inr (by omega))]
      show e_up f 76 4 v 76 10 = f 76 10
      rw [e_up_ne (Or.inr (by omega))]
    · rw [e_up_ne (Or.inl (by omega))]
      match b, b1, b2 with
      | 1, _, _ => show e_up f 76 4 v 79 _ = f 79 _; rw [row 79 (by omega)]
      | 2, _, _ => show e_up f 76 4 v 79 _ = f 79 _; rw [row 79 (by omega)]
      | 3, _, _ => show e_up f 76 4 v 79 _ = f 79 _; rw [row 79 (by omega)]
      | 4, _, _ => show e_up f 76 4 v 77 _ = f 77 _; rw [row 77 (by omega)]
      | 5, _, _ => show e_up f 76 4 v 78 _ = f 78 _; rw [row 78 (by omega)]
      | 6, _, _ => show e_up f 76 4 v 79 _ = f 79 _; rw [row 79 (by omega)]
  · rw [e_up_ne (Or.inr (by omega))]
    exact h5
/-- what passing days touch -/
def KQ (f f' : Nat → Nat → Int32) : Prop := (∀ b, b ≠ 91 → b ≠ 92 → b ≠ 79 → b ≠ 76 → f' b = f b) ∧ ∀ k, k ≠ 4 → f' 76 k = f 76 k
theorem KQ.rfl' {f : Nat → Nat → Int32} : KQ f f := ⟨fun _ _ _ _ _ => rfl, fun _ _ => rfl⟩
theorem KQ.trans {f f' f'' : Nat → Nat → Int32} (h : KQ f f') (k : KQ f' f'') : KQ f f'' := ⟨fun b h1 h2 h3 h4 => (k.1 b h1 h2 h3 h4).trans (h.1 b h1 h2 h3 h4), fun j hj => (k.2 j hj).trans (h.2 j hj)⟩
theorem KQ.ka {f f' : Nat → Nat → Int32} (h : KA f f') : KQ f f' := ⟨fun b h1 h2 _ _ => h b h1 h2, fun j _ => by rw [h 76 (by omega) (by omega)]⟩
theorem KQ.up {f : Nat → Nat → Int32} {k : Nat} {v : Int32} : KQ f (e_up f 79 k v) := ⟨fun b _ _ h _ => e_up_row h, fun j _ => by rw [e_up_row (by omega)]⟩
theorem m_day {f : Nat → Nat → Int32} {r : Nat → Nat → Option Nat} {n : Nat} {tk : Nat → Nat → List (Nat × Int32)} {s : Nat → Nat → Int32} (h : MW f r n tk s) : ∃ f', f_X11_dayOf SS 76 (f, r) = some ((w_day tk n s).1, (f', r)) ∧ KQ f f' ∧ MW f' r n tk (w_day tk n s).2 := by
  have hG : GG (f, r) := h.1.1
  have h6 := h.1.2.2
  have r79 : ∀ f, e_gR SS (f, r) 11 76 3 = some 79 := fun f => (rf11 (g := (f, r)) hG).2.2.1
  have aN : ∀ (f : Nat → Nat → Int32) {i : Nat}, i < 6 → e_aI SS (f, r) 0 79 ((4 : Int32) * nI i + 2) = some (f 79 (4 * i + 2)) := fun f i hi => m_aN (f, r) hi
  have aK : ∀ (f : Nat → Nat → Int32) {i : Nat}, i < 6 → e_aI SS (f, r) 0 79 ((4 : Int32) * nI i + 3) = some (f 79 (4 * i + 3)) := fun f i hi => m_aK (f, r) hi
  have sN : ∀ (f : Nat → Nat → Int32) {i : Nat} (v : Int32), i < 6 → e_aS SS (f, r) 0 79 ((4 : Int32) * nI i + 2) v = some (e_up f 79 (4 * i + 2) v, r) := fun f i v hi => by rw [nI_4j i (j := 2) (by decide +kernel)]; exact aS_ok arM.2.2.1 (by omega) (by omega)
  have sK : ∀ (f : Nat → Nat → Int32) {i : Nat} (v : Int32), i < 6 → e_aS SS (f, r) 0 79 ((4 : Int32) * nI i + 3) v = some (e_up f 79 (4 * i + 3) v, r) := fun f i v hi => by rw [nI_4j i (j := 3) (by decide +kernel)]; exact aS_ok arM.2.2.1 (by omega) (by omega)
  have key := loopR (L := fun m i (a : Int32 × (Nat → Nat → Int32)) => L_X11_dayOf_4 m SS 76 a.1 i (a.2, r)) (n := n)
    (I := fun i a => KQ f a.2 ∧ a.1 = (w_walk tk n s i).1 ∧ MW a.2 r n tk (w_walk tk n s i).2)
    (P := fun q => q.1 = (w_day tk n s).1 ∧ ∃ f', q.2 = (f', r) ∧ KQ f f' ∧ MW f' r n tk (w_day tk n s).2)
    (fun m a hI => by
      obtain ⟨i1, i2, i3⟩ := hI
      have hn : a.2 76 0 = nI n := i3.1.2.1
      refine ⟨(a.1, (e_up a.2 76 4 (a.2 76 4 + 1), r)), ?_, i2, e_up a.2 76 4 (a.2 76 4 + 1), rfl, ⟨fun b h1 h2 h3 h4 => by rw [e_up_row h4]; exact i1.1 b h1 h2 h3 h4, fun j hj => by rw [e_up_ne (Or.inr hj)]; exact i1.2 j hj⟩, ?_⟩
      · show L_X11_dayOf_4 (m + 1) SS 76 a.1 (nI n) (a.2, r) = _
        rw [L_X11_dayOf_4]
        simp only [gI_ok ob11, Option.bind_some, hn]
        rw [if_pos (nI_le (Nat.le_refl n) (by omega))]
        simp only [sI_ok ob11, Option.bind_some]
      · have := i3.day (a.2 76 4 + 1)
        have e : a.2 76 4 = (w_walk tk n s n).2 0 7 := i3.2.1.1.1
        rw [e] at this ⊢
        exact this)
    (fun m i a hi hI => by
      obtain ⟨i1, i2, i3⟩ := hI
      have hi6 : i < 6 := by omega
      have hn : a.2 76 0 = nI n := i3.1.2.1
      have v6 : a.2 79 (4 * i + 3) = (w_walk tk n s i).2 6 i := i3.2.1.r (j := 6) (by omega) (by omega) i hi
      have v3 : a.2 79 (4 * i + 2) = (w_walk tk n s i).2 3 i := i3.2.1.r (j := 3) (by omega) (by omega) i hi
      have nx : w_walk tk n s (i + 1) = w_step tk n i (w_walk tk n s i) := itF_next i _
      show ∃ s', L_X11_dayOf_4 (m + 1) SS 76 a.1 (nI i) (a.2, r) = _ ∧ _
      rw [L_X11_dayOf_4]
      simp only [gI_ok ob11, Option.bind_some, hn, r79, aK _ hi6, aN _ hi6]
      rw [if_neg (nI_ge hi (by omega))]
      simp only [v6, v3]
      by_cases q : (w_walk tk n s i).2 6 i = 0
      · rw [if_pos q]
        obtain ⟨f2, b1, b2⟩ := m_lean i3 hi
        have w2 := i3.ka b2
        obtain ⟨l, hl, el⟩ := s_bound_ex ((w_walk tk n s i).2 3 i + w_lean tk (w_walk tk n s i).2 n i)
        have w3 := w2.up (c := 2) (j := 3) (by omega) i (s_bound ((w_walk tk n s i).2 3 i + w_lean tk (w_walk tk n s i).2 n i) 0 99) (by rw [el]; exact w2.2.2.1.up3 i hl)
        obtain ⟨f3, hf3⟩ : ∃ f, f = e_up f2 79 (4 * i + 2) (s_bound ((w_walk tk n s i).2 3 i + w_lean tk (w_walk tk n s i).2 n i) 0 99) := ⟨_, rfl⟩
        rw [← hf3] at w3
        change MW f3 r n tk (w_new tk n (w_walk tk n s i).2 i) at w3
        have k3 : KQ f f3 := (i1.trans (KQ.ka b2)).trans (by rw [hf3]; exact KQ.up)
        obtain ⟨f4, c1, c2⟩ := m_hold w3 hi
        have w4 := w3.ka c2
        have k4 : KQ f f4 := k3.trans (KQ.ka c2)
        have v3' : f3 79 (4 * i + 2) = w_new tk n (w_walk tk n s i).2 i 3 i := w3.2.1.r (j := 3) (by omega) (by omega) i hi
        rw [b1]
        simp only [Option.bind_some, m_wi]
        rw [s_bound_eq (by decide +kernel)]
        simp only [sN _ _ hi6, Option.bind_some]
        rw [← hf3]
        simp only [r79, aN _ hi6, Option.bind_some, c1, v3']
        by_cases q2 : w_new tk n (w_walk tk n s i).2 i 3 i ≤ w_hold tk (w_new tk n (w_walk tk n s i).2 i) n i
        · rw [if_pos q2]
          refine ⟨(a.1, f4), by rw [J_X11_dayOf_92, nI_1], k4, ?_⟩
          rw [nx, w_step, if_pos q, if_pos q2]
          exact ⟨i2, w4⟩
        · rw [if_neg q2]
          simp only [r79, Option.bind_some, sK _ _ hi6]
          refine ⟨(a.1 ||| ((1 : Int32) <<< (nI i &&& 31)), e_up f4 79 (4 * i + 3) 1), by rw [J_X11_dayOf_92, nI_1], k4.trans KQ.up, ?_⟩
          rw [nx, w_step, if_pos q, if_neg q2]
          exact ⟨by rw [i2], w4.up (c := 3) (j := 6) (by omega) i 1 (w4.2.2.1.up6 i)⟩
      · rw [if_neg q]
        refine ⟨a, by rw [J_X11_dayOf_92, nI_1], i1, ?_⟩
        rw [nx, w_step, if_neg q]
        exact ⟨i2, i3⟩)
    n 0 50000 ((0 : Int32), f) (by omega) (by omega) ⟨KQ.rfl', rfl, h⟩
  have h0 : nI 0 = (0 : Int32) := nI_0
  rw [h0] at key
  obtain ⟨q, k1, k2, f', k3, k4, k5⟩ := key
  refine ⟨f', ?_, k4, k5⟩
  unfold f_X11_dayOf
  rw [if_pos ob11]
  refine k1.trans ?_
  obtain ⟨r1, r2⟩ := q
  simp only at k2 k3
  rw [k2, k3]
theorem m_days {f : Nat → Nat → Int32} {r : Nat → Nat → Option Nat} {n : Nat} {tk : Nat → Nat → List (Nat × Int32)} {s : Nat → Nat → Int32} (h : MW f r n tk s) {d : Nat} (hd : d < 49999) : ∃ f', f_X11_goes SS 76 (nI d) (f, r) = some (f', r) ∧ KQ f f' ∧ MW f' r n tk (w_days tk n d s) := by
  unfold f_X11_goes
  rw [if_pos ob11]
  have key := loopR (L := fun m i (a : Nat → Nat → Int32) => L_X11_goes_2 m SS 76 (nI d) i (a, r)) (n := d)
    (I := fun i a => KQ f a ∧ MW a r n tk (w_days tk n i s))
    (P := fun q => ∃ f', q = (f', r) ∧ KQ f f' ∧ MW f' r n tk (w_days tk n d s))
    (fun m a hI => by
      refine ⟨(a, r), ?_, a, rfl, hI⟩
      show L_X11_goes_2 (m + 1) SS 76 (nI d) (nI d) (a, r) = _
      rw [L_X11_goes_2, if_pos (nI_le (Nat.le_refl d) (by omega))])
    (fun m i a hi hI => by
      obtain ⟨f', h1, h2, h3⟩ := m_day hI.2
      refine ⟨f', ?_, hI.1.trans h2, ?_⟩
      · show L_X11_goes_2 (m + 1) SS 76 (nI d) (nI i) (a, r) = _
        rw [L_X11_goes_2, if_neg (nI_ge hi (by omega)), h1]
        simp only [Option.bind_some, nI_1]
      · have e : w_days tk n (i + 1) s = (w_day tk n (w_days tk n i s)).2 := itF_next i _
        rw [e]
        exact h3)
    d 0 50000 f (by omega) (by omega) ⟨KQ.rfl', h⟩
  have h0 : nI 0 = (0 : Int32) := nI_0
  rw [h0] at key
  obtain ⟨q, k1, f', k3, k4⟩ := key
  exact ⟨f', k1.trans (by rw [k3]), k4⟩
theorem m_rest {f : Nat → Nat → Int32} {r : Nat → Nat → Option Nat} {n : Nat} {tk : Nat → Nat → List (Nat × Int32)} {s : Nat → Nat → Int32} (h : MW f r n tk s) : ∃ f', f_X11_mindsAll SS 76 (f, r) = some (w_rest tk s n, (f', r)) ∧ KA f f' := by
  have hG : GG (f, r) := h.1.1
  have h6 := h.1.2.2
  have r79 : ∀ f, e_gR SS (f, r) 11 76 3 = some 79 := fun f => (rf11 (g := (f, r)) hG).2.2.1
  have aK : ∀ (f : Nat → Nat → Int32) {i : Nat}, i < 6 → e_aI SS (f, r) 0 79 ((4 : Int32) * nI i + 3) = some (f 79 (4 * i + 3)) := fun f i hi => m_aK (f, r) hi
  unfold f_X11_mindsAll
  rw [if_pos ob11]
  have key := loopR (L := fun m i (a : Int32 × (Nat → Nat → Int32)) => L_X11_mindsAll_4 m SS 76 a.1 i (a.2, r)) (n := n)
    (I := fun i a => KA f a.2 ∧ a.1 = itF (σ := Int32) (fun i a => if s 6 i = 0 then a + w_mind tk s n i else a) i 0 0)
    (P := fun q => q.1 = w_rest tk s n ∧ ∃ f', q.2 = (f', r) ∧ KA f f')
    (fun m a hI => by
      refine ⟨(a.1, (a.2, r)), ?_, hI.2, a.2, rfl, hI.1⟩
      show L_X11_mindsAll_4 (m + 1) SS 76 a.1 (nI n) (a.2, r) = _
      have hn : a.2 76 0 = nI n := (h.ka hI.1).1.2.1
      rw [L_X11_mindsAll_4]
      simp only [gI_ok ob11, Option.bind_some, hn]
      rw [if_pos (nI_le (Nat.le_refl n) (by omega))])
    (fun m i a hi hI => by
      have h' := h.ka hI.1
      have hi6 : i < 6 := by omega
      have hn : a.2 76 0 = nI n := h'.1.2.1
      have v6 : a.2 79 (4 * i + 3) = s 6 i := h'.2.1.r (j := 6) (by omega) (by omega) i hi
      obtain ⟨f2, b1, b2⟩ := m_mind h' hi
      show ∃ s', L_X11_mindsAll_4 (m + 1) SS 76 a.1 (nI i) (a.2, r) = _ ∧ _
      rw [L_X11_mindsAll_4]
      simp only [gI_ok ob11, Option.bind_some, hn, r79, aK _ hi6, v6]
      rw [if_neg (nI_ge hi (by omega))]
      simp only [J_X11_mindsAll_35, nI_1, b1, Option.bind_some, add_0]
      by_cases q : s 6 i = 0
      · rw [if_pos q]
        exact ⟨(a.1 + w_mind tk s n i, f2), rfl, hI.1.trans b2, by rw [itF_next, if_pos q, hI.2]⟩
      · rw [if_neg q]
        exact ⟨a, rfl, hI.1, by rw [itF_next, if_neg q, hI.2]⟩)
    n 0 50000 ((0 : Int32), f) (by omega) (by omega) ⟨KA.rfl', rfl⟩
  have h0 : nI 0 = (0 : Int32) := nI_0
  rw [h0] at key
  obtain ⟨q, k1, k2, f', k3, k4⟩ := key
  refine ⟨f', k1.trans ?_, k4⟩
  obtain ⟨r1, r2⟩ := q
  simp only at k2 k3
  rw [k2, k3]
/-- the reference keeps all, and lays it back -/
theorem m_keep {f : Nat → Nat → Int32} {r : Nat → Nat → Option Nat} (hG : GG (f, r)) : ∃ f', f_X11_keepsAll SS 76 (f, r) = some (f', r) ∧ (∀ b, b ≠ 93 → f' b = f b) ∧ (∀ k, k < 24 → f' 93 k = f 79 k) ∧ f' 93 24 = f 76 4 := by
  have r79 : ∀ f, e_gR SS (f, r) 11 76 3 = some 79 := fun f => (rf11 (g := (f, r)) hG).2.2.1
  have r93 : ∀ f, e_gR SS (f, r) 11 76 29 = some 93 := fun f => (rf11 (g := (f, r)) hG).2.2.2.2.2.2.2.2.2.2.2.2.2.2.2.2.1
  have A93 : ArA 0 93 25 := by unfold ArA; decide +kernel
  have k24 : (24 : Int32) = nI 24 := by decide +kernel
  unfold f_X11_keepsAll
  rw [if_pos ob11]
  have key := loopR (L := fun m i (a : Nat → Nat → Int32) => L_X11_keepsAll_2 m SS 76 i (a, r)) (n := 24)
    (I := fun i a => (∀ b, b ≠ 93 → a b = f b) ∧ ∀ k, k < i → a 93 k = f 79 k)
    (P := fun q => ∃ f', q = (f', r) ∧ (∀ b, b ≠ 93 → f' b = f b) ∧ (∀ k, k < 24 → f' 93 k = f 79 k) ∧ f' 93 24 = f 76 4)
    (fun m a hI => by
      refine ⟨(e_up a 93 24 (a 76 4), r), ?_, _, rfl, fun b hb => by rw [e_up_row hb]; exact hI.1 b hb, fun k hk => by rw [e_up_ne (Or.inr (by omega))]; exact hI.2 k hk, by rw [e_up_eq, hI.1 76 (by omega)]⟩
      show L_X11_keepsAll_2 (m + 1) SS 76 (nI 24) (a, r) = _
      rw [L_X11_keepsAll_2, k24, if_pos (nI_le (Nat.le_refl 24) (by omega))]
      simp only [r93, gI_ok ob11, Option.bind_some, aS_ok A93 (show 24 < 25 by omega) (by omega)])
    (fun m i a hi hI => by
      refine ⟨e_up a 93 i (a 79 i), ?_, fun b hb => by rw [e_up_row hb]; exact hI.1 b hb, fun k hk => ?_⟩
      · show L_X11_keepsAll_2 (m + 1) SS 76 (nI i) (a, r) = _
        rw [L_X11_keepsAll_2, k24, if_neg (nI_ge hi (by omega))]
        simp only [r93, r79, Option.bind_some, aI_ok arM.2.2.1 hi (by omega), aS_ok A93 (show i < 25 by omega) (by omega), nI_1]
      · rw [e_up_at]
        by_cases z : k = i
        · rw [if_pos z, z, hI.1 79 (by omega)]
        · rw [if_neg z]
          exact hI.2 k (by omega))
    24 0 50000 f (by omega) (by omega) ⟨fun _ _ => rfl, fun k hk => by omega⟩
  have h0 : nI 0 = (0 : Int32) := nI_0
  rw [h0] at key
  obtain ⟨q, k1, f', k3, k4⟩ := key
  exact ⟨f', k1.trans (by rw [k3]), k4⟩
theorem m_lay {f : Nat → Nat → Int32} {r : Nat → Nat → Option Nat} (hG : GG (f, r)) : ∃ f', f_X11_lays SS 76 (f, r) = some (f', r) ∧ (∀ b, b ≠ 79 → b ≠ 76 → f' b = f b) ∧ (∀ k, k < 24 → f' 79 k = f 93 k) ∧ (∀ k, k ≠ 4 → f' 76 k = f 76 k) ∧ f' 76 4 = f 93 24 := by
  have r79 : ∀ f, e_gR SS (f, r) 11 76 3 = some 79 := fun f => (rf11 (g := (f, r)) hG).2.2.1
  have r93 : ∀ f, e_gR SS (f, r) 11 76 29 = some 93 := fun f => (rf11 (g := (f, r)) hG).2.2.2.2.2.2.2.2.2.2.2.2.2.2.2.2.1
  have A93 : ArA 0 93 25 := by unfold ArA; decide +kernel
  have k24 : (24 : Int32) = nI 24 := by decide +kernel
  unfold f_X11_lays
  rw [if_pos ob11]
  have key := loopR (L := fun m i (a : Nat → Nat → Int32) => L_X11_lays_2 m SS 76 i (a, r)) (n := 24)
    (I := fun i a => (∀ b, b ≠ 79 → a b = f b) ∧ ∀ k, k < i → a 79 k = f 93 k)
    (P := fun q => ∃ f', q = (f', r) ∧ (∀ b, b ≠ 79 → b ≠ 76 → f' b = f b) ∧ (∀ k, k < 24 → f' 79 k = f 93 k) ∧ (∀ k, k ≠ 4 → f' 76 k = f 76 k) ∧ f' 76 4 = f 93 24)
    (fun m a hI => by
      refine ⟨(e_up a 76 4 (a 93 24), r), ?_, _, rfl, fun b hb hc => by rw [e_up_row hc]; exact hI.1 b hb, fun k hk => by rw [e_up_ne (Or.inl (by omega))]; exact hI.2 k hk, fun k hk => by rw [e_up_ne (Or.inr hk), hI.1 76 (by omega)], by rw [e_up_eq, hI.1 93 (by omega)]⟩
      show L_X11_lays_2 (m + 1) SS 76 (nI 24) (a, r) = _
      rw [L_X11_lays_2, k24, if_pos (nI_le (Nat.le_refl 24) (by omega))]
      simp only [r93, sI_ok ob11, Option.bind_some, aI_ok A93 (show 24 < 25 by omega) (by omega)])
    (fun m i a hi hI => by
      refine ⟨e_up a 79 i (a 93 i), ?_, fun b hb => by rw [e_up_row hb]; exact hI.1 b hb, fun k hk => ?_⟩
      · show L_X11_lays_2 (m + 1) SS 76 (nI i) (a, r) = _
        rw [L_X11_lays_2, k24, if_neg (nI_ge hi (by omega))]
        simp only [r93, r79, Option.bind_some, aS_ok arM.2.2.1 hi (by omega), aI_ok A93 (show i < 25 by omega) (by omega), nI_1]
      · rw [e_up_at]
        by_cases z : k = i
        · rw [if_pos z, z, hI.1 93 (by omega)]
        · rw [if_neg z]
          exact hI.2 k (by omega))
    24 0 50000 f (by omega) (by omega) ⟨fun _ _ => rfl, fun k hk => by omega⟩
  have h0 : nI 0 = (0 : Int32) := nI_0
  rw [h0] at key
  obtain ⟨q, k1, f', k3, k4⟩ := key
  exact ⟨f', k1.trans (by rw [k3]), k4⟩
/-- what thinking leaves of the reference as it was -/
def KM (f f' : Nat → Nat → Int32) : Prop := (∀ b, b < 91 → b ≠ 79 → b ≠ 76 → f' b = f b) ∧ (∀ k, k < 24 → f' 79 k = f 79 k) ∧ ∀ k, k < 18 → f' 76 k = f 76 k
theorem KM.rfl' {f : Nat → Nat → Int32} : KM f f := ⟨fun _ _ _ _ => rfl, fun _ _ => rfl, fun _ _ => rfl⟩
theorem KM.trans {f f' f'' : Nat → Nat → Int32} (h : KM f f') (k : KM f' f'') : KM f f'' := ⟨fun b h1 h2 h3 => (k.1 b h1 h2 h3).trans (h.1 b h1 h2 h3), fun j hj => (k.2.1 j hj).trans (h.2.1 j hj), fun j hj => (k.2.2 j hj).trans (h.2.2 j hj)⟩
theorem KM.ka {f f' : Nat → Nat → Int32} (h : KA f f') : KM f f' := ⟨fun b h1 _ _ => h b (by omega) (by omega), fun k _ => by rw [h 79 (by omega) (by omega)], fun k _ => by rw [h 76 (by omega) (by omega)]⟩
theorem MW.km {f f' : Nat → Nat → Int32} {r : Nat → Nat → Option Nat} {n : Nat} {tk : Nat → Nat → List (Nat × Int32)} {s : Nat → Nat → Int32} (h : MW f r n tk s) (k : KM f f') : MW f' r n tk s :=
  h.of (k.2.2 0 (by omega)) (k.2.2 4 (by omega)) (k.2.2 10 (by omega)) (k.1 77 (by omega) (by omega) (by omega)) (k.1 78 (by omega) (by omega) (by omega)) k.2.1 (k.1 81 (by omega) (by omega) (by omega)) (k.1 82 (by omega) (by omega) (by omega))
/-- keep all, let days pass, lay it back: all is as it was -/
theorem KM.laid {f f1 f2 f3 : Nat → Nat → Int32} (a1 : ∀ b, b ≠ 93 → f1 b = f b) (a2 : ∀ k, k < 24 → f1 93 k = f 79 k) (a3 : f1 93 24 = f 76 4) (q : KQ f1 f2) (b1 : ∀ b, b ≠ 79 → b ≠ 76 → f3 b = f2 b) (b2 : ∀ k, k < 24 → f3 79 k = f2 93 k) (b3 : ∀ k, k ≠ 4 → f3 76 k = f2 76 k) (b4 : f3 76 4 = f2 93 24) : KM f f3 := by
  have e93 : f2 93 = f1 93 := q.1 93 (by omega) (by omega) (by omega) (by omega)
  refine ⟨fun b h1 h2 h3 => by rw [b1 b h2 h3, q.1 b (by omega) (by omega) h2 h3, a1 b (by omega)], fun k hk => by rw [b2 k hk, e93, a2 k hk], fun k hk => ?_⟩
  by_cases z : k = 4
  · rw [z, b4, e93, a3]
  · rw [b3 k z, q.2 k z, a1 76 (by omega)]
