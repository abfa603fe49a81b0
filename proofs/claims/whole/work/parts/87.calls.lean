/-! image, back -/
theorem SQ.of2 {f f' : Nat → Nat → Int32} {r : Nat → Nat → Option Nat} {o n : Nat} {tk : Nat → Nat → List (Nat × Int32)} {s : Nat → Nat → Int32} (h : SQ f r o n tk s) (k : ∀ j, j < 7 → f' (o + j) = f (o + j)) (kt : ∀ b, 7 ≤ b → b < 37 → NS b → f' b = f b) : SQ f' r o n tk s := by
  obtain ⟨s0, h1, h2⟩ := h
  have n0 : f' o = f o := k 0 (by omega)
  refine ⟨s0, ⟨⟨h1.1.1, h1.1.2.1, ?_, h1.1.2.2.2⟩, ?_, fun j hj => (k j hj).trans (h1.2.2.1 j hj), h1.2.2.2⟩, h2⟩
  · show f' o 6 = _
    rw [n0]
    exact h1.1.2.2.1
  · intro t ht e
    have := h1.2.1 t ht ((congrFun n0 8).symm.trans e)
    exact ⟨this.1.of (kt _ (by omega) (by omega) (by unfold NS; omega)) (kt _ (by omega) (by omega) (by unfold NS; omega)) (kt _ (by omega) (by omega) (by unfold NS; omega)), this.2⟩
/-- all but the streets and the image -/
theorem RE.im {f f' : Nat → Nat → Int32} {r : Nat → Nat → Option Nat} {n n' tc tz : Nat} {tk : Nat → Nat → List (Nat × Int32)} {s s' : Nat → Nat → Int32} (h : RE f r n tc tz tk s) (k : ∀ b, NS b → b ≠ 0 → (b < 45 ∨ (80 ≤ b ∧ b < 91 ∧ b ≠ 83 ∧ b ≠ 84)) → f' b = f b) (k0 : ∀ j, j ≠ 11 → f' 0 j = f 0 j) (k76 : ∀ j, (j = 6 ∨ j = 9) → f' 76 j = f 76 j) (hl : ∃ t, t < tc ∧ s' 0 8 = nI t) (hd : ∃ d, d ≤ 999 ∧ s' 0 7 = nI d) (hi : (f' 0 11 = 0 ∧ f' 76 11 = 0) ∨ (f' 0 11 = 1 ∧ f' 76 11 = 1 ∧ IM f' r n' tc tk s')) : RE f' r n' tc tz tk s' := by
  obtain ⟨⟨a1, a2, a3⟩, ⟨b1, b2, b3, b4⟩, h3, -, -, h6, -⟩ := h
  have e4 : f' 4 = f 4 := k 4 (by unfold NS; omega) (by omega) (by omega)
  have e80 : f' 80 = f 80 := k 80 (by unfold NS; omega) (by omega) (by omega)
  have e89 : f' 89 = f 89 := k 89 (by unfold NS; omega) (by omega) (by omega)
  have e81 : f' 81 = f 81 := k 81 (by unfold NS; omega) (by omega) (by omega)
  have e82 : f' 82 = f 82 := k 82 (by unfold NS; omega) (by omega) (by omega)
  refine ⟨⟨(k0 9 (by omega)).trans a1, (k76 9 (by omega)).trans a2, a3⟩, ⟨(k0 10 (by omega)).trans b1, (k76 6 (by omega)).trans b2, b3, by rw [e4, e80, e89]; exact b4⟩, fun t ht => ?_, hl, hd, fun i hi4 => ?_, hi⟩
  · obtain ⟨c1, c2, c3⟩ := h3 t ht
    exact ⟨c1.of (k _ (by unfold NS; omega) (by omega) (by omega)) (k _ (by unfold NS; omega) (by omega) (by omega)) (k _ (by unfold NS; omega) (by omega) (by omega)), c2.of e81 e82, c3⟩
  · obtain ⟨so, z, c⟩ := h6 i hi4
    refine ⟨so, z, ?_⟩
    unfold SH
    rw [k (37 + 2 * i) (by unfold NS; omega) (by omega) (by omega), k 85 (by unfold NS; omega) (by omega) (by omega), k 86 (by unfold NS; omega) (by omega) (by omega), k (38 + 2 * i) (by unfold NS; omega) (by omega) (by omega), k 87 (by unfold NS; omega) (by omega) (by omega)]
    exact c
theorem ok_image : OK_image SS Inv_ := by
  intro g hI
  obtain ⟨f, r⟩ := g
  obtain ⟨n, tc, tz, tk, s, h⟩ := hI
  have h : IN f r n tc tz tk s := h
  have hG : GG (f, r) := h.1.cs.1
  have h6 := h.1.le
  have hw := h.2.1.2.2.1
  have b52 : e_ob SS 7 52 = true := obS (Or.inl rfl)
  have r52 : ∀ f, e_gR SS (f, r) 10 0 2 = some 52 := fun f => (rf10 (g := (f, r)) hG).2.2.1
  have r68 : ∀ f, e_gR SS (f, r) 10 0 4 = some 68 := fun f => (rf10 (g := (f, r)) hG).2.2.2.2.1
  obtain ⟨f1, a1, a2, a3⟩ := sq_bec h.1 hw (o := 68) (Or.inr (Or.inr rfl)) (by omega)
  obtain ⟨fa, hfa⟩ : ∃ q, q = e_up f1 0 11 1 := ⟨_, rfl⟩
  have fa_r : ∀ b, b ≠ 0 → fa b = f1 b := fun b hb => by rw [hfa]; exact e_up_row hb
  have q52 : fa 52 6 = nI n := by rw [fa_r 52 (by omega), a2 52 (by omega)]; exact h.1.n
  -- the reference
  have r79 : ∀ f, e_gR SS (f, r) 11 76 3 = some 79 := fun f => (rf11 (g := (f, r)) hG).2.2.1
  have r83 : ∀ f, e_gR SS (f, r) 11 76 12 = some 83 := fun f => (rf11 (g := (f, r)) hG).2.2.2.2.2.2.1
  have r84 : ∀ f, e_gR SS (f, r) 11 76 13 = some 84 := fun f => (rf11 (g := (f, r)) hG).2.2.2.2.2.2.2.1
  have A83 : ArA 0 83 24 := by unfold ArA; decide +kernel
  have A84 : ArA 0 84 3 := by unfold ArA; decide +kernel
  have k24 : (24 : Int32) = nI 24 := by decide +kernel
  have s0 : ∀ (f : Nat → Nat → Int32) v, e_aS SS (f, r) 0 84 (0 : Int32) v = some (e_up f 84 0 v, r) := fun f v => by rw [← nI_0]; exact aS_ok A84 (by omega) (by omega)
  have s1 : ∀ (f : Nat → Nat → Int32) v, e_aS SS (f, r) 0 84 (1 : Int32) v = some (e_up f 84 1 v, r) := fun f v => by rw [show (1 : Int32) = nI 1 by decide +kernel]; exact aS_ok A84 (by omega) (by omega)
  have s2 : ∀ (f : Nat → Nat → Int32) v, e_aS SS (f, r) 0 84 (2 : Int32) v = some (e_up f 84 2 v, r) := fun f v => by rw [show (2 : Int32) = nI 2 by decide +kernel]; exact aS_ok A84 (by omega) (by omega)
  obtain ⟨fb, hfb⟩ : ∃ q, q = e_up fa 76 11 1 := ⟨_, rfl⟩
  have fb_r : ∀ b, b ≠ 76 → fb b = fa b := fun b hb => by rw [hfb]; exact e_up_row hb
  have fb_76 : ∀ k, k ≠ 11 → fb 76 k = f 76 k := fun k hk => by rw [hfb, e_up_ne (Or.inr hk), fa_r 76 (by omega), a2 76 (by omega)]
  have fb_11 : fb 76 11 = 1 := by rw [hfb, e_up_eq]
  have hi79 : fb 79 = f 79 := by rw [fb_r 79 (by omega), fa_r 79 (by omega), a2 79 (by omega)]
  have key := loopR (L := fun m i (a : Nat → Nat → Int32) => L_X11_image_7 m SS 76 i (a, r)) (n := 24)
    (I := fun i a => (∀ b, b ≠ 83 → a b = fb b) ∧ ∀ k, k < i → a 83 k = f 79 k)
    (P := fun q => ∃ f', q = (nI n, (f', r)) ∧ (∀ b, b ≠ 83 → b ≠ 84 → f' b = fb b) ∧ (∀ k, k < 24 → f' 83 k = f 79 k) ∧ f' 84 0 = nI n ∧ f' 84 1 = f 76 4 ∧ f' 84 2 = f 76 10)
    (fun m a hI => by
      obtain ⟨i1, i2⟩ := hI
      have e0 : a 76 0 = nI n := by rw [i1 76 (by omega), fb_76 0 (by omega)]; exact h.2.1.1.2.1
      have e4 : a 76 4 = f 76 4 := by rw [i1 76 (by omega), fb_76 4 (by omega)]
      have e10 : a 76 10 = f 76 10 := by rw [i1 76 (by omega), fb_76 10 (by omega)]
      refine ⟨(nI n, (e_up (e_up (e_up a 84 0 (nI n)) 84 1 (f 76 4)) 84 2 (f 76 10), r)), ?_, _, rfl, fun b h1 h2 => by rw [e_up_row h2, e_up_row h2, e_up_row h2]; exact i1 b h1, fun k hk => by rw [e_up_row (by omega), e_up_row (by omega), e_up_row (by omega)]; exact i2 k hk, by rw [e_up_ne (Or.inr (by omega)), e_up_ne (Or.inr (by omega)), e_up_eq], by rw [e_up_ne (Or.inr (by omega)), e_up_eq], by rw [e_up_eq]⟩
      show L_X11_image_7 (m + 1) SS 76 (nI 24) (a, r) = _
      rw [L_X11_image_7, k24, if_pos (nI_le (Nat.le_refl 24) (by omega))]
      simp only [r84, gI_ok ob11, Option.bind_some, s0, s1, s2, e_up_row (show (76 : Nat) ≠ 84 by omega), e0, e4, e10])
    (fun m i a hi hI => by
      refine ⟨e_up a 83 i (a 79 i), ?_, fun b hb => by rw [e_up_row hb]; exact hI.1 b hb, fun k hk => ?_⟩
      · show L_X11_image_7 (m + 1) SS 76 (nI i) (a, r) = _
        rw [L_X11_image_7, k24, if_neg (nI_ge hi (by omega))]
        simp only [r83, r79, Option.bind_some, aI_ok arM.2.2.1 hi (by omega : 24 < 2 ^ 31), aS_ok A83 hi (by omega : 24 < 2 ^ 31), nI_1]
      · rw [e_up_at]
        by_cases z : k = i
        · rw [if_pos z, z, hI.1 79 (by omega), hi79]
        · rw [if_neg z]
          exact hI.2 k (by omega))
    24 0 50000 fb (by omega) (by omega) ⟨fun _ _ => rfl, fun k hk => by omega⟩
  rw [nI_0] at key
  obtain ⟨q, k1, f2, k2, d1, d2, d3, d4, d5⟩ := key
  have lo : ∀ b, b < 76 → f2 b = fa b := fun b hb => by rw [d1 b (by omega) (by omega), fb_r b (by omega)]
  have all : ∀ b, b ≠ 0 → b ≠ 76 → b ≠ 83 → b ≠ 84 → (b < 68 ∨ 75 ≤ b) → f2 b = f b := fun b h0 h1 h2 h3 h4 => by rw [d1 b h2 h3, fb_r b h1, fa_r b h0, a2 b (by omega)]
  have f76 : ∀ k, k ≠ 11 → f2 76 k = f 76 k := fun k hk => by rw [d1 76 (by omega) (by omega), fb_76 k hk]
  have f0 : ∀ k, k ≠ 11 → f2 0 k = f 0 k := fun k hk => by rw [lo 0 (by omega), hfa, e_up_ne (Or.inr hk), a2 0 (by omega)]
  refine do_ (nI n) (f1 := fa) (f2 := f2) (n := n) (tc := tc) (tz := tz) (tk := tk) (s := s) ?_ ?_ ⟨?_, ?_, ?_⟩
  · unfold f_X10_image
    rw [if_pos ob10]
    simp only [r68, r52, Option.bind_some, a1, sI_ok ob10, gI_ok b52]
    rw [← hfa, q52]
  · unfold f_X11_image
    rw [if_pos ob11]
    simp only [sI_ok ob11, Option.bind_some]
    rw [← hfb]
    exact k1.trans (by rw [k2])
  · exact h.1.of2 (fun j hj => all _ (by omega) (by omega) (by omega) (by omega) (by omega)) (fun b b1 b2 hn => all b (by omega) (by omega) (by omega) (by omega) (by omega))
  · exact h.2.1.of (f76 0 (by omega)) (f76 4 (by omega)) (f76 10 (by omega)) (all 77 (by omega) (by omega) (by omega) (by omega) (by omega)) (all 78 (by omega) (by omega) (by omega) (by omega) (by omega)) (fun k _ => by rw [all 79 (by omega) (by omega) (by omega) (by omega) (by omega)]) (all 81 (by omega) (by omega) (by omega) (by omega) (by omega)) (all 82 (by omega) (by omega) (by omega) (by omega) (by omega))
  · refine h.2.2.im (fun b _ h0 h1 => all b h0 (by omega) (by omega) (by omega) (by omega)) f0 (fun j hj => f76 j (by omega)) h.2.2.2.2.2.1 h.2.2.2.2.2.2.1 (Or.inr ⟨by rw [lo 0 (by omega), hfa, e_up_eq], by rw [d1 76 (by omega) (by omega)]; exact fb_11, ?_⟩)
    have sq68 : SQ f2 r 68 n tk s := a3.of2 (fun j hj => by rw [lo _ (by omega), fa_r _ (by omega)]) (fun b b1 b2 hn => by rw [lo b (by omega), fa_r b (by omega)])
    refine ⟨n, s, Nat.le_refl n, sq68, hw, fun p _ => ⟨rfl, rfl⟩, h.2.2.2.2.2.1, h.2.2.2.2.2.2.1, d3, d4.trans h.2.1.2.1.1.1, d5.trans h.2.1.2.1.1.2, fun p hp => ⟨?_, ?_, ?_, ?_⟩⟩
    · rw [d2 _ (by omega)]; exact h.2.1.row (j := 1) (by omega) (by omega) p hp
    · rw [d2 _ (by omega)]; exact h.2.1.row (j := 2) (by omega) (by omega) p hp
    · rw [d2 _ (by omega)]; exact h.2.1.row (j := 3) (by omega) (by omega) p hp
    · rw [d2 _ (by omega)]; exact h.2.1.row (j := 6) (by omega) (by omega) p hp
theorem ok_back : OK_back SS Inv_ := by
  intro g hI
  obtain ⟨f, r⟩ := g
  obtain ⟨n, tc, tz, tk, s, h⟩ := hI
  have h : IN f r n tc tz tk s := h
  have hG : GG (f, r) := h.1.cs.1
  have b52 : e_ob SS 7 52 = true := obS (Or.inl rfl)
  have r52 : ∀ f, e_gR SS (f, r) 10 0 2 = some 52 := fun f => (rf10 (g := (f, r)) hG).2.2.1
  have r68 : ∀ f, e_gR SS (f, r) 10 0 4 = some 68 := fun f => (rf10 (g := (f, r)) hG).2.2.2.2.1
  rcases h.2.2.2.2.2.2.2.2 with ⟨i1, i2⟩ | ⟨i1, i2, ni, si, c1, c2, c3, c4, c5, c6, c7, c8, c9, c10⟩
  · refine ask0 h (-3) ?_ ?_
    · unfold f_X10_back
      rw [if_pos ob10, gI_ok ob10, Option.bind_some, show (f, r).1 0 11 = 0 from i1, if_pos rfl]
    · unfold f_X11_back
      rw [if_pos ob11, gI_ok ob11, Option.bind_some, show (f, r).1 76 11 = 0 from i2, if_pos rfl]
  · have no : ¬ (1 : Int32) = 0 := by decide
    have h6 := c2.le
    obtain ⟨f1, a1, a2, a3⟩ := sq_bec c2 c3 (o := 52) (Or.inl rfl) (by omega)
    have hi : ∀ b, 76 ≤ b → f1 b = f b := fun b hb => a2 b (by omega)
    have r79 : ∀ f, e_gR SS (f, r) 11 76 3 = some 79 := fun f => (rf11 (g := (f, r)) hG).2.2.1
    have r83 : ∀ f, e_gR SS (f, r) 11 76 12 = some 83 := fun f => (rf11 (g := (f, r)) hG).2.2.2.2.2.2.1
    have r84 : ∀ f, e_gR SS (f, r) 11 76 13 = some 84 := fun f => (rf11 (g := (f, r)) hG).2.2.2.2.2.2.2.1
    have A83 : ArA 0 83 24 := by unfold ArA; decide +kernel
    have A84 : ArA 0 84 3 := by unfold ArA; decide +kernel
    have k24 : (24 : Int32) = nI 24 := by decide +kernel
    have s0 : ∀ (f : Nat → Nat → Int32), e_aI SS (f, r) 0 84 (0 : Int32) = some (f 84 0) := fun f => by rw [← nI_0]; exact aI_ok A84 (by omega) (by omega)
    have s1 : ∀ (f : Nat → Nat → Int32), e_aI SS (f, r) 0 84 (1 : Int32) = some (f 84 1) := fun f => by rw [show (1 : Int32) = nI 1 by decide +kernel]; exact aI_ok A84 (by omega) (by omega)
    have s2 : ∀ (f : Nat → Nat → Int32), e_aI SS (f, r) 0 84 (2 : Int32) = some (f 84 2) := fun f => by rw [show (2 : Int32) = nI 2 by decide +kernel]; exact aI_ok A84 (by omega) (by omega)
    have key := loopR (L := fun m i (a : Nat → Nat → Int32) => L_X11_back_12 m SS 76 i (a, r)) (n := 24)
      (I := fun i a => (∀ b, b ≠ 79 → a b = f1 b) ∧ ∀ k, k < i → a 79 k = f1 83 k)
      (P := fun q => ∃ f', q = (nI ni, (f', r)) ∧ (∀ b, b ≠ 79 → b ≠ 76 → f' b = f1 b) ∧ (∀ k, k < 24 → f' 79 k = f1 83 k) ∧ (∀ k, k ≠ 0 → k ≠ 4 → k ≠ 10 → f' 76 k = f1 76 k) ∧ f' 76 0 = nI ni ∧ f' 76 4 = si 0 7 ∧ f' 76 10 = si 0 8)
      (fun m a hI => by
        obtain ⟨j1, j2⟩ := hI
        have e0 : a 84 0 = nI ni := by rw [j1 84 (by omega), hi 84 (by omega)]; exact c7
        have e1 : a 84 1 = si 0 7 := by rw [j1 84 (by omega), hi 84 (by omega)]; exact c8
        have e2 : a 84 2 = si 0 8 := by rw [j1 84 (by omega), hi 84 (by omega)]; exact c9
        refine ⟨(nI ni, (e_up (e_up (e_up a 76 0 (nI ni)) 76 4 (si 0 7)) 76 10 (si 0 8), r)), ?_, _, rfl, fun b h1 h2 => by rw [e_up_row h2, e_up_row h2, e_up_row h2]; exact j1 b h1, fun k hk => by rw [e_up_row (by omega), e_up_row (by omega), e_up_row (by omega)]; exact j2 k hk, fun k y0 y4 y10 => by rw [e_up_ne (Or.inr y10), e_up_ne (Or.inr y4), e_up_ne (Or.inr y0), j1 76 (by omega)], by rw [e_up_ne (Or.inr (by omega)), e_up_ne (Or.inr (by omega)), e_up_eq], by rw [e_up_ne (Or.inr (by omega)), e_up_eq], by rw [e_up_eq]⟩
        show L_X11_back_12 (m + 1) SS 76 (nI 24) (a, r) = _
        rw [L_X11_back_12, k24, if_pos (nI_le (Nat.le_refl 24) (by omega))]
        simp only [r84, gI_ok ob11, sI_ok ob11, Option.bind_some, s0, s1, s2, e_up_row (show (84 : Nat) ≠ 76 by omega), e0, e1, e2]
        rw [e_up_ne (Or.inr (by omega)), e_up_ne (Or.inr (by omega)), e_up_eq])
      (fun m i a hi24 hI => by
        refine ⟨e_up a 79 i (a 83 i), ?_, fun b hb => by rw [e_up_row hb]; exact hI.1 b hb, fun k hk => ?_⟩
        · show L_X11_back_12 (m + 1) SS 76 (nI i) (a, r) = _
          rw [L_X11_back_12, k24, if_neg (nI_ge hi24 (by omega))]
          simp only [r83, r79, Option.bind_some, aI_ok A83 hi24 (by omega : 24 < 2 ^ 31), aS_ok arM.2.2.1 hi24 (by omega : 24 < 2 ^ 31), nI_1]
        · rw [e_up_at]
          by_cases z : k = i
          · rw [if_pos z, z, hI.1 83 (by omega)]
          · rw [if_neg z]
            exact hI.2 k (by omega))
      24 0 50000 f1 (by omega) (by omega) ⟨fun _ _ => rfl, fun k hk => by omega⟩
    rw [nI_0] at key
    obtain ⟨q, k1, f2, k2, d1, d2, d3, d4, d5, d6⟩ := key
    have lo : ∀ b, b < 76 → f2 b = f1 b := fun b hb => d1 b (by omega) (by omega)
    have all : ∀ b, b ≠ 79 → b ≠ 76 → (b < 52 ∨ 59 ≤ b) → f2 b = f b := fun b h0 h1 h2 => by rw [d1 b h0 h1, a2 b (by omega)]
    have e83 : f1 83 = f 83 := hi 83 (by omega)
    have f76 : ∀ k, k ≠ 0 → k ≠ 4 → k ≠ 10 → f2 76 k = f 76 k := fun k y0 y4 y10 => by rw [d3 k y0 y4 y10, hi 76 (by omega)]
    obtain ⟨t, t1, t2⟩ := c5
    obtain ⟨hT, hR, hK⟩ := h.2.2.2.2.1 t t1
    refine do_ (nI ni) (f1 := f1) (f2 := f2) (n := ni) (tc := tc) (tz := tz) (tk := tk) (s := si) ?_ ?_ ⟨?_, ?_, ?_⟩
    · unfold f_X10_back
      rw [if_pos ob10, gI_ok ob10, Option.bind_some, show (f, r).1 0 11 = 1 from i1, if_neg no, r52, Option.bind_some, r68, Option.bind_some, a1, Option.bind_some, r52, Option.bind_some, gI_ok b52, Option.bind_some, show (f1, r).1 52 6 = nI ni from a3.n]
    · unfold f_X11_back
      rw [if_pos ob11, gI_ok ob11, Option.bind_some, show (f1, r).1 76 11 = 1 by rw [show (f1, r).1 76 = f 76 from hi 76 (by omega)]; exact i2, if_neg no]
      exact k1.trans (by rw [k2])
    · exact a3.lo lo
    · refine ⟨⟨hG, d4, h6⟩, ⟨⟨d5, d6⟩, fun j j1 j2 p hp => ?_⟩, c3, t, by have := h.2.2.1.2.2.2; omega, d6.trans t2, hR.of (all 81 (by omega) (by omega) (by omega)) (all 82 (by omega) (by omega) (by omega)), hK⟩
      have row : ∀ c, c < 4 → f2 79 (4 * p + c) = f 83 (4 * p + c) := fun c hc => by rw [d2 _ (by omega), e83]
      obtain ⟨x1, x2, x3, x4⟩ := c10 p hp
      match j, j1, j2 with
      | 1, _, _ => exact (row 0 (by omega)).trans x1
      | 2, _, _ => exact (row 1 (by omega)).trans x2
      | 3, _, _ => exact (row 2 (by omega)).trans x3
      | 4, _, _ =>
        show f2 77 p = si 4 p
        rw [all 77 (by omega) (by omega) (by omega), (c4 p hp).1]
        exact h.2.1.row (j := 4) (by omega) (by omega) p (by omega)
      | 5, _, _ =>
        show f2 78 p = si 5 p
        rw [all 78 (by omega) (by omega) (by omega), (c4 p hp).2]
        exact h.2.1.row (j := 5) (by omega) (by omega) p (by omega)
      | 6, _, _ => exact (row 3 (by omega)).trans x4
    · have e0 : f2 0 = f 0 := all 0 (by omega) (by omega) (by omega)
      refine h.2.2.im (fun b _ h0 h1 => all b (by omega) (by omega) (by omega)) (fun j _ => by rw [e0]) (fun j hj => f76 j (by omega) (by omega) (by omega)) ⟨t, t1, t2⟩ c6 (Or.inr ⟨by rw [e0]; exact i1, by rw [f76 11 (by omega) (by omega) (by omega)]; exact i2, ?_⟩)
      have e84 : f2 84 = f 84 := all 84 (by omega) (by omega) (by omega)
      have e83' : f2 83 = f 83 := all 83 (by omega) (by omega) (by omega)
      exact ⟨ni, si, Nat.le_refl ni, c2.of2 (fun j hj => all _ (by omega) (by omega) (by omega)) (fun b b1 b2 _ => all b (by omega) (by omega) (by omega)), c3, fun p _ => ⟨rfl, rfl⟩, ⟨t, t1, t2⟩, c6, by rw [e84]; exact c7, by rw [e84]; exact c8, by rw [e84]; exact c9, by rw [e83']; exact c10⟩
