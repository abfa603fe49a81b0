theorem KM.laid2 {f f1 f2 f2' f3 : Nat → Nat → Int32} (a1 : ∀ b, b ≠ 93 → f1 b = f b) (a2 : ∀ k, k < 24 → f1 93 k = f 79 k) (a3 : f1 93 24 = f 76 4) (q : KQ f1 f2) {v : Int32} (e : f2' = e_up f2 76 34 v) (b1 : ∀ b, b ≠ 79 → b ≠ 76 → f3 b = f2' b) (b2 : ∀ k, k < 24 → f3 79 k = f2' 93 k) (b3 : ∀ k, k ≠ 4 → f3 76 k = f2' 76 k) (b4 : f3 76 4 = f2' 93 24) : KM f f3 ∧ f3 76 34 = v := by
  have e93 : f2 93 = f1 93 := q.1 93 (by omega) (by omega) (by omega) (by omega)
  have row : ∀ b, b ≠ 76 → f2' b = f2 b := fun b hb => by rw [e]; exact e_up_row hb
  refine ⟨⟨fun b h1 h2 h3 => by rw [b1 b h2 h3, row b h3, q.1 b (by omega) (by omega) h2 h3, a1 b (by omega)], fun k hk => by rw [b2 k hk, row 93 (by omega), e93, a2 k hk], fun k hk => ?_⟩, ?_⟩
  · by_cases z : k = 4
    · rw [z, b4, row 93 (by omega), e93, a3]
    · rw [b3 k z, e, e_up_ne (Or.inr (by omega)), q.2 k z, a1 76 (by omega)]
  · rw [b3 34 (by omega), e, e_up_eq]
theorem mw_cranes {f : Nat → Nat → Int32} {r : Nat → Nat → Option Nat} {n : Nat} {tk : Nat → Nat → List (Nat × Int32)} {s : Nat → Nat → Int32} (h : MW f r n tk s) {l : Nat} (hl : l < 200000) : ∃ f', f_X11_cranes SS 76 (nI l) (f, r) = some (s_bits (w_crane tk n (l + 1) s 6) n, (f', r)) ∧ KM f f' ∧ f' 76 34 = s_meets (w_crane tk n (l + 1) s 1) (w_crane tk n (l + 1) s 2) n := by
  have hG : GG (f, r) := h.1.1
  have h6 := h.1.2.2
  have r79 : ∀ f, e_gR SS (f, r) 11 76 3 = some 79 := fun f => (rf11 (g := (f, r)) hG).2.2.1
  have aW : ∀ (f : Nat → Nat → Int32) {i : Nat}, i < 6 → e_aI SS (f, r) 0 79 ((4 : Int32) * nI i) = some (f 79 (4 * i)) := fun f i hi => m_aW (f, r) hi
  have sL : ∀ (f : Nat → Nat → Int32) {i : Nat} (v : Int32), i < 6 → e_aS SS (f, r) 0 79 ((4 : Int32) * nI i + 1) v = some (e_up f 79 (4 * i + 1) v, r) := fun f i v hi => by rw [nI_4j i (j := 1) (by decide +kernel)]; exact aS_ok arM.2.2.1 (by omega) (by omega)
  have k8 : (8 : Int32) = nI 8 := by decide +kernel
  have e1 : (nI l).toInt64 + (1 : Int64) = lN (l + 1) := by rw [nI_l (by omega)]; exact lN_1 l
  obtain ⟨f1, c1, c2, c3, c4⟩ := m_keep hG
  have h1 : MW f1 r n tk s := h.of (by rw [c2 76 (by omega)]) (by rw [c2 76 (by omega)]) (by rw [c2 76 (by omega)]) (c2 77 (by omega)) (c2 78 (by omega)) (fun k _ => by rw [c2 79 (by omega)]) (c2 81 (by omega)) (c2 82 (by omega))
  unfold f_X11_cranes
  rw [if_pos ob11, c1, Option.bind_some, e1]
  have key := loopY (L := fun m k (a : Int64 × (Nat → Nat → Int32)) => L_X11_cranes_12 m SS 76 a.1 k (a.2, r)) (n := 8) (F := w_craneF tk n)
    (I := fun _ t a => a.1 = lN t.1 ∧ t.1 < 2147483647 ∧ KQ f1 a.2 ∧ MW a.2 r n tk t.2) (P := fun t q => ∃ f', q = (s_bits (t.2 6) n, (f', r)) ∧ KM f f' ∧ f' 76 34 = s_meets (t.2 1) (t.2 2) n)
    (fun m t a hI => by
      obtain ⟨i1, i2, i3, i4⟩ := hI
      obtain ⟨f2, hf2⟩ : ∃ b, b = e_up a.2 76 34 (s_meets (t.2 1) (t.2 2) n) := ⟨_, rfl⟩
      obtain ⟨f3, d1, d2, d3, d4, d5⟩ := m_lay (f := f2) (r := r) hG
      obtain ⟨q1, q2⟩ := KM.laid2 c2 c3 c4 i3 hf2 d2 d3 d4 d5
      refine ⟨(s_bits (t.2 6) n, (f3, r)), ?_, f3, rfl, q1, q2⟩
      show L_X11_cranes_12 (m + 1) SS 76 a.1 (nI 8) (a.2, r) = _
      rw [L_X11_cranes_12, k8, if_pos (nI_le (Nat.le_refl 8) (by omega))]
      simp only [mw_bits i4, mw_meets i4, Option.bind_some, sI_ok ob11]
      rw [← hf2]
      simp only [d1, Option.bind_some])
    (fun m i t a hi hI => by
      obtain ⟨i1, i2, i3, i4⟩ := hI
      have l1 := c_lot_lt t.1
      have l2 := c_lot_lt (c_lot t.1)
      have go : ∀ b : Nat → Nat → Int32, KQ f1 b → MW b r n tk (c_turn n t.1 t.2) → ∃ s', J_X11_cranes_96 (L_X11_cranes_12 m SS) SS 76 (lN (c_lot (c_lot t.1))) (nI i) (b, r) = (fun (a : Int64 × (Nat → Nat → Int32)) => L_X11_cranes_12 m SS 76 a.1 (nI (i + 1)) (a.2, r)) s' ∧ s'.1 = lN (w_craneF tk n i t).1 ∧ (w_craneF tk n i t).1 < 2147483647 ∧ KQ f1 s'.2 ∧ MW s'.2 r n tk (w_craneF tk n i t).2 := by
        intro b hb1 hb2
        obtain ⟨f', b1, b2, b3⟩ := m_day hb2
        refine ⟨(lN (c_lot (c_lot t.1)), f'), ?_, rfl, l2, hb1.trans b2, b3⟩
        unfold J_X11_cranes_96
        simp only [Option.bind_some, b1, nI_1]
      have en : a.2 76 0 = nI n := i4.1.2.1
      show ∃ s', L_X11_cranes_12 (m + 1) SS 76 a.1 (nI i) (a.2, r) = _ ∧ _
      rw [L_X11_cranes_12, k8, if_neg (nI_ge hi (by omega)), i1]
      simp only [lN_lot i2, lN_lot l1, lN_6 _ l1, lN_10 _ l2, m_within (show c_lot t.1 % 6 < 6 by omega), Option.bind_some, gI_ok ob11, en]
      by_cases hp : c_lot t.1 % 6 < n
      · rw [if_neg (nI_ge hp (by omega))]
        have e61 : a.2 79 (4 * (c_lot t.1 % 6)) = t.2 1 (c_lot t.1 % 6) := i4.row (j := 1) (by omega) (by omega) _ hp
        simp only [r79, Option.bind_some, aW _ (show c_lot t.1 % 6 < 6 by omega), e61, sL _ _ (show c_lot t.1 % 6 < 6 by omega)]
        have e10 : (10 : Int32) + nI (c_lot (c_lot t.1) % 10) = nI (10 + c_lot (c_lot t.1) % 10) := nI_add 10 _
        obtain ⟨w, b0, w1, w2, w3, w4, w5⟩ := (i4.2.2.1.1 _ hp).1
        have hwf := wf_turn i4.2.2.1 t.1
        have gg : ∀ v, c_turn n t.1 t.2 = e_up t.2 2 (c_lot t.1 % 6) v → ∃ s', J_X11_cranes_96 (L_X11_cranes_12 m SS) SS 76 (lN (c_lot (c_lot t.1))) (nI i) (e_up a.2 79 (4 * (c_lot t.1 % 6) + 1) v, r) = (fun (a : Int64 × (Nat → Nat → Int32)) => L_X11_cranes_12 m SS 76 a.1 (nI (i + 1)) (a.2, r)) s' ∧ s'.1 = lN (w_craneF tk n i t).1 ∧ (w_craneF tk n i t).1 < 2147483647 ∧ KQ f1 s'.2 ∧ MW s'.2 r n tk (w_craneF tk n i t).2 := by
          intro v hv
          refine go _ (i3.trans KQ.up) ?_
          rw [hv] at hwf ⊢
          exact i4.up (c := 1) (j := 2) (by omega) _ v hwf
        by_cases q : w < 10
        · have ev : (10 : Int32) * (1 - t.2 1 (c_lot t.1 % 6) / 10) = 10 := by
            rw [w3, k_10, nI_div (by omega) (by omega), show w / 10 = 0 by omega]
            decide +kernel
          rw [ev, e10]
          exact gg _ (by unfold c_turn; rw [if_pos hp, if_neg (by rw [w3, k_10]; exact nI_ge q (by omega))])
        · have ev : (10 : Int32) * (1 - t.2 1 (c_lot t.1 % 6) / 10) = 0 := by
            rw [w3, k_10, nI_div (by omega) (by omega), show w / 10 = 1 by omega]
            decide +kernel
          rw [ev, Int32.zero_add]
          exact gg _ (by unfold c_turn; rw [if_pos hp, if_pos (by rw [w3, k_10]; exact nI_le (by omega) (by omega))])
      · rw [if_pos (nI_le (by omega) (by omega))]
        exact go _ i3 (by unfold c_turn; rw [if_neg hp]; exact i4))
    8 0 50000 (l + 1, s) (lN (l + 1), f1) (by omega) (by omega) ⟨rfl, by show l + 1 < _; omega, KQ.rfl', h1⟩
  have h0 : nI 0 = (0 : Int32) := nI_0
  rw [h0] at key
  obtain ⟨q, k1, f', k2, k3, k4⟩ := key
  exact ⟨f', k1.trans (by rw [k2]; rfl), k3, k4⟩
