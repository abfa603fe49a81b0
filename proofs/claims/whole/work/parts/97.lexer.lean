/-! the reference reads a token -/
theorem wtok_rc1 : ∀ w, w < 3 → c_rc (c_wtok w) = 3 ∧ c_wtok w = 15 + w := by decide +kernel
theorem wtok_rc2 : ∀ w, w < 9 → 3 ≤ w → c_rc (c_wtok w) = 2 ∧ c_wtok w = 3 := by decide +kernel
theorem wtok_rc3 : ∀ w, w < 12 → 9 ≤ w → c_rc (c_wtok w) = (4 : Int32) + nI w - 9 ∧ c_wtok w < 15 ∧ 3 < c_wtok w := by decide +kernel
theorem wtok_rc {w : Nat} (h : w ≤ 12) : (w < 3 → c_rc (c_wtok w) = 3 ∧ c_wtok w = 15 + w) ∧ (3 ≤ w → w < 9 → c_rc (c_wtok w) = 2 ∧ c_wtok w = 3) ∧ (9 ≤ w → w ≠ 12 → c_rc (c_wtok w) = (4 : Int32) + nI w - 9 ∧ c_wtok w < 15 ∧ 3 < c_wtok w) ∧ (w = 12 → c_rc (c_wtok w) = -1 ∧ c_wtok w = 1) := ⟨fun h => wtok_rc1 w h, fun h1 h2 => wtok_rc2 w h2 h1, fun h1 h2 => wtok_rc3 w (by omega) h1, fun h => by subst h; exact ⟨rfl, rfl⟩⟩
theorem x11_next {T : Nat → Nat} {z : Nat} {f : Nat → Nat → Int32} {r : Nat → Nat → Option Nat} {f0 : Nat → Nat → Int32} (hG : GG (f0, r)) (h : ND f T z) {p : Nat} (hn : f 76 18 = nI p) (hp : p ≤ z) : ∃ f', f_X11_next SS 76 (f, r) = some (f', r) ∧ (∀ b, b ≠ 76 → f' b = f b) ∧ (∀ k, k ≠ 18 → k ≠ 19 → k ≠ 20 → k ≠ 21 → f' 76 k = f 76 k) ∧ f' 76 18 = nI (lx_ T z p).2.2.2 ∧ f' 76 19 = nI (lx_ T z p).2.1 ∧ f' 76 20 = c_rc (lx_ T z p).1 ∧ ((lx_ T z p).1 = 2 ∨ (lx_ T z p).1 = 3 → f' 76 21 = (lx_ T z p).2.2.1) ∧ (15 ≤ (lx_ T z p).1 → f' 76 21 = nI ((lx_ T z p).1 - 15)) := by
  have z160 := h.2.1
  have s0 : f_X11_next SS 76 (f, r) = J_X11_next_52 SS 76 (e_up f 76 18 (nI (c_run (c_blank T) z (z - p) p)), r) := by
    unfold f_X11_next
    rw [if_pos ob11]
    exact x11_blank hG (z - p) p f 50000 h hn hp (by omega) (by omega)
  have sl := c_run_le (c_blank T) z (z - p) p hp
  rw [s0]
  unfold lx_
  simp only
  generalize hs : c_run (c_blank T) z (z - p) p = s at *
  obtain ⟨F, hF⟩ : ∃ F, F = e_up (e_up (e_up (e_up f 76 18 (nI s)) 76 19 (nI s)) 76 20 0) 76 21 0 := ⟨_, rfl⟩
  have hR : ND F T z := by rw [hF]; exact (((h.up (by omega)).up (by omega)).up (by omega)).up (by omega)
  have F18 : F 76 18 = nI s := by rw [hF, e_up_ne (Or.inr (by omega)), e_up_ne (Or.inr (by omega)), e_up_ne (Or.inr (by omega)), e_up_eq]
  have F19 : F 76 19 = nI s := by rw [hF, e_up_ne (Or.inr (by omega)), e_up_ne (Or.inr (by omega)), e_up_eq]
  have F20 : F 76 20 = 0 := by rw [hF, e_up_ne (Or.inr (by omega)), e_up_eq]
  have F21 : F 76 21 = 0 := by rw [hF, e_up_eq]
  have Fr : ∀ b, b ≠ 76 → F b = f b := fun b hb => by rw [hF, e_up_row hb, e_up_row hb, e_up_row hb, e_up_row hb]
  have Fk : ∀ k, k ≠ 18 → k ≠ 19 → k ≠ 20 → k ≠ 21 → F 76 k = f 76 k := fun k h1 h2 h3 h4 => by rw [hF, e_up_ne (Or.inr h4), e_up_ne (Or.inr h3), e_up_ne (Or.inr h2), e_up_ne (Or.inr h1)]
  obtain ⟨K, hK⟩ : ∃ K : Int32 → e_G → Option e_G, K = fun v17 g7 => (f_X11_in SS v17 (97 : Int32) (122 : Int32) g7).bind fun q20 =>
    if q20.1 = 0 then
      (f_X11_in SS v17 (48 : Int32) (57 : Int32) q20.2).bind fun q22 =>
      if q22.1 = 0 then
        if v17 = (40 : Int32) then
          J_X11_next_374 SS 76 v17 q22.2
        else
          if v17 = (41 : Int32) then
            J_X11_next_374 SS 76 v17 q22.2
          else
            if v17 = (59 : Int32) then
              J_X11_next_374 SS 76 v17 q22.2
            else
              if v17 = (43 : Int32) then
                J_X11_next_374 SS 76 v17 q22.2
              else
                if v17 = (45 : Int32) then
                  J_X11_next_374 SS 76 v17 q22.2
                else
                  if v17 = (42 : Int32) then
                    J_X11_next_374 SS 76 v17 q22.2
                  else
                    if v17 = (60 : Int32) then
                      J_X11_next_374 SS 76 v17 q22.2
                    else
                      if v17 = (61 : Int32) then
                        J_X11_next_374 SS 76 v17 q22.2
                      else
                        J_X11_next_379 SS 76 v17 (0 : Int32) q22.2
      else
        L_X11_next_230 50000 SS 76 (0 : Int32) q22.2
    else
      L_X11_next_103 50000 SS 76 q20.2 := ⟨_, rfl⟩
  have j0 : J_X11_next_52 SS 76 (e_up f 76 18 (nI s), r) = if nI s = nI z then some (F, r) else ((e_gR SS (F, r) 11 76 5).bind fun v13 => (e_gI SS (F, r) 11 76 18).bind fun v15 => (e_aI SS (F, r) 0 v13 v15).bind fun v17 => K v17 (F, r)) := by
    unfold J_X11_next_52
    simp only [gI_ok ob11, sI_ok ob11, Option.bind_some]
    rw [show e_up f 76 18 (nI s) 76 18 = nI s from e_up_eq, ← hF, F18, show F 76 6 = nI z from hR.1, hK]
  rw [j0]
  by_cases sz : s < z
  · obtain ⟨tb, -⟩ := h.2.2.1 s sz
    rw [if_neg (fun y => by have := nI_inj (by omega) (by omega) y; omega), if_pos sz, r80_ hG, Option.bind_some, gI_ok ob11, Option.bind_some, show (F, r).1 76 18 = nI s from F18, hR.at sz, Option.bind_some, hK]
    simp only [in_lett tb, Option.bind_some]
    by_cases lt : 97 ≤ T s ∧ T s ≤ 122
    · have bl : c_lett T s = true := by unfold c_lett; simp [lt.1, lt.2]
      rw [if_pos lt, if_neg (show ¬ (1 : Int32) = 0 by decide), if_pos bl]
      have lle := c_run_le (c_lett T) z (z - s) s (by omega)
      have lal := c_run_all (c_lett T) z (z - s) s
      have w1 := x11_letters hG (z - s) s F 50000 hR F18 (by omega) (by omega) (by omega)
      generalize hq : c_run (c_lett T) z (z - s) s = q at *
      rw [w1]
      obtain ⟨G, hGdef⟩ : ∃ G, G = e_up F 76 18 (nI q) := ⟨_, rfl⟩
      rw [← hGdef]
      have gR : ND G T z := by rw [hGdef]; exact hR.up (by omega)
      have G18 : G 76 18 = nI q := by rw [hGdef, e_up_eq]
      have G19 : G 76 19 = nI s := by rw [hGdef, e_up_ne (Or.inr (by omega))]; exact F19
      have Gk : ∀ k, k ≠ 18 → k ≠ 19 → k ≠ 20 → k ≠ 21 → G 76 k = f 76 k := fun k h1 h2 h3 h4 => by rw [hGdef, e_up_ne (Or.inr h1)]; exact Fk k h1 h2 h3 h4
      have Gr : ∀ b, b ≠ 76 → G b = f b := fun b hb => by rw [hGdef, e_up_row hb]; exact Fr b hb
      have wl := c_word_le T s q
      have wd := x11_word hG gR lle.1 lle.2 (fun j h1 h2 e => by
        have := lal j h1 h2
        unfold c_lett at this
        rw [e] at this
        exact absurd this (by decide))
      have fin : ∀ v : Int32, v = c_rc (c_wtok (c_word T s q)) → ∃ f', J_X11_next_195 SS 76 (nI (c_word T s q)) 76 v (G, r) = some (f', r) ∧ (∀ b, b ≠ 76 → f' b = f b) ∧ (∀ k, k ≠ 18 → k ≠ 19 → k ≠ 20 → k ≠ 21 → f' 76 k = f 76 k) ∧ f' 76 18 = nI q ∧ f' 76 19 = nI s ∧ f' 76 20 = c_rc (c_wtok (c_word T s q)) ∧ (c_wtok (c_word T s q) = 2 ∨ c_wtok (c_word T s q) = 3 → f' 76 21 = nI (c_word T s q - 3)) ∧ (15 ≤ c_wtok (c_word T s q) → f' 76 21 = nI (c_wtok (c_word T s q) - 15)) := by
        intro v hv
        subst hv
        obtain ⟨t1, t2, t3, t4⟩ := wtok_rc wl
        have k3 : (3 : Int32) = nI 3 := by decide +kernel
        have put : ∀ u : Int32, (c_wtok (c_word T s q) = 2 ∨ c_wtok (c_word T s q) = 3 → u = nI (c_word T s q - 3)) → (15 ≤ c_wtok (c_word T s q) → u = nI (c_wtok (c_word T s q) - 15)) → ∃ f', J_X11_next_211 SS 76 u (e_up G 76 20 (c_rc (c_wtok (c_word T s q))), r) = some (f', r) ∧ (∀ b, b ≠ 76 → f' b = f b) ∧ (∀ k, k ≠ 18 → k ≠ 19 → k ≠ 20 → k ≠ 21 → f' 76 k = f 76 k) ∧ f' 76 18 = nI q ∧ f' 76 19 = nI s ∧ f' 76 20 = c_rc (c_wtok (c_word T s q)) ∧ (c_wtok (c_word T s q) = 2 ∨ c_wtok (c_word T s q) = 3 → f' 76 21 = nI (c_word T s q - 3)) ∧ (15 ≤ c_wtok (c_word T s q) → f' 76 21 = nI (c_wtok (c_word T s q) - 15)) := by
          intro u u1 u2
          unfold J_X11_next_211
          rw [sI_ok ob11, Option.bind_some]
          exact ⟨e_up (e_up G 76 20 (c_rc (c_wtok (c_word T s q)))) 76 21 u, rfl, fun b hb => by rw [e_up_row hb, e_up_row hb]; exact Gr b hb, fun k h1 h2 h3 h4 => by rw [e_up_ne (Or.inr h4), e_up_ne (Or.inr h3)]; exact Gk k h1 h2 h3 h4, by rw [e_up_ne (Or.inr (by omega)), e_up_ne (Or.inr (by omega))]; exact G18, by rw [e_up_ne (Or.inr (by omega)), e_up_ne (Or.inr (by omega))]; exact G19, by rw [e_up_ne (Or.inr (by omega)), e_up_eq], fun y => by rw [e_up_eq]; exact u1 y, fun y => by rw [e_up_eq]; exact u2 y⟩
        unfold J_X11_next_195
        rw [sI_ok ob11, Option.bind_some]
        by_cases y : 3 ≤ c_word T s q
        · rw [if_pos (show (3 : Int32) ≤ nI (c_word T s q) by rw [k3]; exact nI_le y (by omega)), k3, show nI (c_word T s q) - nI 3 = nI (c_word T s q - 3) from (Int32.ofNat_sub _ _ y).symm]
          refine put _ (fun _ => rfl) (fun u => ?_)
          by_cases y9 : c_word T s q < 9
          · have := (t2 y y9).2; omega
          · by_cases y12 : c_word T s q = 12
            · have := (t4 y12).2; omega
            · have := (t3 (by omega) y12).2; omega
        · rw [if_neg (show ¬ (3 : Int32) ≤ nI (c_word T s q) by rw [k3]; exact nI_ge (by omega) (by omega))]
          have := (t1 (by omega)).2
          refine put _ (fun u => by omega) (fun u => ?_)
          rw [this, Nat.add_sub_cancel_left]
      unfold J_X11_next_146
      simp only [gI_ok ob11, Option.bind_some]
      rw [G18, G19, wd]
      simp only [Option.bind_some]
      obtain ⟨t1, t2, t3, t4⟩ := wtok_rc wl
      have k3 : (3 : Int32) = nI 3 := by decide +kernel
      have k9 : (9 : Int32) = nI 9 := by decide +kernel
      have k12 : (12 : Int32) = nI 12 := by decide +kernel
      by_cases y : 3 ≤ c_word T s q
      · rw [if_pos (show (3 : Int32) ≤ nI (c_word T s q) by rw [k3]; exact nI_le y (by omega))]
        by_cases y9 : 9 ≤ c_word T s q
        · rw [if_pos (show (9 : Int32) ≤ nI (c_word T s q) by rw [k9]; exact nI_le y9 (by omega))]
          by_cases y12 : c_word T s q = 12
          · rw [if_pos (show nI (c_word T s q) = (12 : Int32) by rw [y12, k12])]
            exact fin _ (t4 y12).1.symm
          · rw [if_neg (show ¬ nI (c_word T s q) = (12 : Int32) from fun e => y12 (nI_inj (by omega) (by omega) (e.trans k12)))]
            exact fin _ (t3 y9 y12).1.symm
        · rw [if_neg (show ¬ (9 : Int32) ≤ nI (c_word T s q) by rw [k9]; exact nI_ge (by omega) (by omega))]
          exact fin _ (t2 y (by omega)).1.symm
      · rw [if_neg (show ¬ (3 : Int32) ≤ nI (c_word T s q) by rw [k3]; exact nI_ge (by omega) (by omega))]
        exact fin _ (t1 (by omega)).1.symm
    · have bl : ¬ c_lett T s = true := fun y => by
        unfold c_lett at y
        simp at y
        exact lt y
      simp only [if_neg lt, if_true, in_dig tb, Option.bind_some]
      rw [if_neg bl]
      by_cases dg : 48 ≤ T s ∧ T s ≤ 57
      · have bd : c_dig T s = true := by unfold c_dig; simp [dg.1, dg.2]
        simp only [if_pos dg]
        rw [if_neg (show ¬ (1 : Int32) = 0 by decide), if_pos bd]
        have lle := c_run_le (c_dig T) z (z - s) s (by omega)
        have n1 := x11_digits (s := s) hG (z - s) 0 F 50000 hR F18 F21 (by omega) (by omega) (by omega)
        rw [Nat.add_zero] at n1
        generalize hq : c_run (c_dig T) z (z - s) s = q at *
        rw [nI_0] at n1
        rw [n1]
        obtain ⟨G, hGdef⟩ : ∃ G, G = e_up (e_up F 76 21 (c_nv4 T s (q - s))) 76 18 (nI q) := ⟨_, rfl⟩
        rw [← hGdef]
        have G18 : G 76 18 = nI q := by rw [hGdef, e_up_eq]
        have G19 : G 76 19 = nI s := by rw [hGdef, e_up_ne (Or.inr (by omega)), e_up_ne (Or.inr (by omega))]; exact F19
        have G21 : G 76 21 = c_nv4 T s (q - s) := by rw [hGdef, e_up_ne (Or.inr (by omega)), e_up_eq]
        have Gk : ∀ k, k ≠ 18 → k ≠ 19 → k ≠ 20 → k ≠ 21 → G 76 k = f 76 k := fun k h1 h2 h3 h4 => by rw [hGdef, e_up_ne (Or.inr h1), e_up_ne (Or.inr h4)]; exact Fk k h1 h2 h3 h4
        have Gr : ∀ b, b ≠ 76 → G b = f b := fun b hb => by rw [hGdef, e_up_row hb, e_up_row hb]; exact Fr b hb
        have k4 : (4 : Int32) = nI 4 := by decide +kernel
        unfold J_X11_next_309 J_X11_next_320
        by_cases y : q - s ≤ 4
        · rw [if_pos (show nI (q - s) ≤ (4 : Int32) by rw [k4]; exact nI_le y (by omega)), if_pos y, sI_ok ob11, Option.bind_some]
          exact ⟨e_up G 76 20 1, rfl, fun b hb => by rw [e_up_row hb]; exact Gr b hb, fun k h1 h2 h3 h4 => by rw [e_up_ne (Or.inr h3)]; exact Gk k h1 h2 h3 h4, by rw [e_up_ne (Or.inr (by omega))]; exact G18, by rw [e_up_ne (Or.inr (by omega))]; exact G19, by rw [e_up_eq]; rfl, fun _ => by show e_up G 76 20 1 76 21 = c_nv T s (q - s); rw [e_up_ne (Or.inr (by omega)), G21]; unfold c_nv4; rw [if_pos y], fun u => absurd (show 15 ≤ 2 from u) (by decide)⟩
        · rw [if_neg (show ¬ nI (q - s) ≤ (4 : Int32) by rw [k4]; exact nI_ge (by omega) (by omega)), if_neg y, sI_ok ob11, Option.bind_some]
          exact ⟨e_up G 76 20 (-1), rfl, fun b hb => by rw [e_up_row hb]; exact Gr b hb, fun k h1 h2 h3 h4 => by rw [e_up_ne (Or.inr h3)]; exact Gk k h1 h2 h3 h4, by rw [e_up_ne (Or.inr (by omega))]; exact G18, by rw [e_up_ne (Or.inr (by omega))]; exact G19, by rw [e_up_eq]; rfl, fun u => by rcases u with u | u <;> exact absurd (show (1 : Nat) = _ from u) (by decide), fun u => absurd (show 15 ≤ 1 from u) (by decide)⟩
      · have bd : ¬ c_dig T s = true := fun y => by
          unfold c_dig at y
          simp at y
          exact dg y
        simp only [if_neg dg, if_true]
        rw [if_neg bd]
        have fin : ∀ u : Int32, u = c_rc (c_stok (T s)) → ∃ f', J_X11_next_390 SS 76 76 u (F, r) = some (f', r) ∧ (∀ b, b ≠ 76 → f' b = f b) ∧ (∀ k, k ≠ 18 → k ≠ 19 → k ≠ 20 → k ≠ 21 → f' 76 k = f 76 k) ∧ f' 76 18 = nI (s + 1) ∧ f' 76 19 = nI s ∧ f' 76 20 = c_rc (c_stok (T s)) ∧ (c_stok (T s) = 2 ∨ c_stok (T s) = 3 → f' 76 21 = 0) ∧ (15 ≤ c_stok (T s) → f' 76 21 = nI (c_stok (T s) - 15)) := by
          intro u hu
          subst hu
          have rg := stok_range _ tb
          unfold J_X11_next_390
          simp only [gI_ok ob11, sI_ok ob11, Option.bind_some]
          exact ⟨e_up (e_up F 76 20 (c_rc (c_stok (T s)))) 76 18 (e_up F 76 20 (c_rc (c_stok (T s))) 76 18 + 1), rfl, fun b hb => by rw [e_up_row hb, e_up_row hb]; exact Fr b hb, fun k h1 h2 h3 h4 => by rw [e_up_ne (Or.inr h1), e_up_ne (Or.inr h3)]; exact Fk k h1 h2 h3 h4, by rw [e_up_eq, e_up_ne (Or.inr (by omega)), F18, nI_1], by rw [e_up_ne (Or.inr (by omega)), e_up_ne (Or.inr (by omega))]; exact F19, by rw [e_up_ne (Or.inr (by omega)), e_up_eq], fun y => by omega, fun y => by omega⟩
        have q : ∀ k : Nat, k < 256 → ((nI (T s) = nI k) = (T s = k)) := fun k hk => propext (nI_eq (by omega) (by omega))
        rw [show (40 : Int32) = nI 40 by decide +kernel, show (41 : Int32) = nI 41 by decide +kernel, show (59 : Int32) = nI 59 by decide +kernel, show (43 : Int32) = nI 43 by decide +kernel, show (45 : Int32) = nI 45 by decide +kernel, show (42 : Int32) = nI 42 by decide +kernel, show (60 : Int32) = nI 60 by decide +kernel, show (61 : Int32) = nI 61 by decide +kernel]
        simp only [q 40 (by omega), q 41 (by omega), q 59 (by omega), q 43 (by omega), q 45 (by omega), q 42 (by omega), q 60 (by omega), q 61 (by omega)]
        have yes : c_stok (T s) ≠ 1 → ∃ f', J_X11_next_374 SS 76 (nI (T s)) (F, r) = some (f', r) ∧ (∀ b, b ≠ 76 → f' b = f b) ∧ (∀ k, k ≠ 18 → k ≠ 19 → k ≠ 20 → k ≠ 21 → f' 76 k = f 76 k) ∧ f' 76 18 = nI (s + 1) ∧ f' 76 19 = nI s ∧ f' 76 20 = c_rc (c_stok (T s)) ∧ (c_stok (T s) = 2 ∨ c_stok (T s) = 3 → f' 76 21 = 0) ∧ (15 ≤ c_stok (T s) → f' 76 21 = nI (c_stok (T s) - 15)) := fun y => by
          unfold J_X11_next_374 J_X11_next_379
          rw [if_neg (show ¬ (1 : Int32) = 0 by decide)]
          exact fin _ (stok_cc _ tb y).2.symm
        by_cases h1 : T s = 40
        · rw [if_pos h1]; exact yes (by rw [h1]; decide)
        rw [if_neg h1]
        by_cases h2 : T s = 41
        · rw [if_pos h2]; exact yes (by rw [h2]; decide)
        rw [if_neg h2]
        by_cases h3 : T s = 59
        · rw [if_pos h3]; exact yes (by rw [h3]; decide)
        rw [if_neg h3]
        by_cases h4 : T s = 43
        · rw [if_pos h4]; exact yes (by rw [h4]; decide)
        rw [if_neg h4]
        by_cases h5 : T s = 45
        · rw [if_pos h5]; exact yes (by rw [h5]; decide)
        rw [if_neg h5]
        by_cases h6 : T s = 42
        · rw [if_pos h6]; exact yes (by rw [h6]; decide)
        rw [if_neg h6]
        by_cases h7 : T s = 60
        · rw [if_pos h7]; exact yes (by rw [h7]; decide)
        rw [if_neg h7]
        by_cases h8 : T s = 61
        · rw [if_pos h8]; exact yes (by rw [h8]; decide)
        rw [if_neg h8]
        unfold J_X11_next_379
        rw [if_pos rfl]
        exact fin _ (by unfold c_stok; simp [h1, h2, h3, h4, h5, h6, h7, h8]; rfl)
  · rw [if_pos (by rw [show s = z by omega]), if_neg sz]
    exact ⟨F, rfl, Fr, Fk, F18, F19, F20, fun y => by rcases y with y | y <;> exact absurd (show (0 : Nat) = _ from y) (by decide), fun y => absurd (show 15 ≤ 0 from y) (by decide)⟩
