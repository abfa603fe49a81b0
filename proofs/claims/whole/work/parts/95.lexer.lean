/-! a token read: the class's step, the reference's next -/
theorem x5_name {T : Nat → Nat} {z : Nat} {f : Nat → Nat → Int32} {r : Nat → Nat → Option Nat} (h : RD f r T z) {p q : Nat} (hp : f 3 5 = nI p) (hq : f 3 3 = nI q) (hpq : p ≤ q) (hqz : q ≤ z) : f_X5_nameNumber SS 3 (f, r) = some (if 3 ≤ c_word T p q ∧ c_word T p q < 9 then nI (c_word T p q - 3) else -1, (f, r)) := by
  have a1 : f_X5_spells SS 3 1000001 (f, r) = some (if c_word T p q = 3 then 1 else 0, (f, r)) := x5_spells h hp hq hpq hqz (i := 1) (by omega) (by omega)
  have a2 : f_X5_spells SS 3 1000002 (f, r) = some (if c_word T p q = 4 then 1 else 0, (f, r)) := x5_spells h hp hq hpq hqz (i := 2) (by omega) (by omega)
  have a3 : f_X5_spells SS 3 1000003 (f, r) = some (if c_word T p q = 5 then 1 else 0, (f, r)) := x5_spells h hp hq hpq hqz (i := 3) (by omega) (by omega)
  have a4 : f_X5_spells SS 3 1000004 (f, r) = some (if c_word T p q = 6 then 1 else 0, (f, r)) := x5_spells h hp hq hpq hqz (i := 4) (by omega) (by omega)
  have a5 : f_X5_spells SS 3 1000005 (f, r) = some (if c_word T p q = 7 then 1 else 0, (f, r)) := x5_spells h hp hq hpq hqz (i := 5) (by omega) (by omega)
  have a6 : f_X5_spells SS 3 1000006 (f, r) = some (if c_word T p q = 8 then 1 else 0, (f, r)) := x5_spells h hp hq hpq hqz (i := 6) (by omega) (by omega)
  unfold f_X5_nameNumber
  rw [if_pos ob5, a1, Option.bind_some]
  generalize c_word T p q = w at *
  by_cases w3 : w = 3
  · subst w3; rfl
  simp only [w3, if_false, if_true]
  rw [a2, Option.bind_some]
  by_cases w4 : w = 4
  · subst w4; rfl
  simp only [w4, if_false, if_true]
  rw [a3, Option.bind_some]
  by_cases w5 : w = 5
  · subst w5; rfl
  simp only [w5, if_false, if_true]
  rw [a4, Option.bind_some]
  by_cases w6 : w = 6
  · subst w6; rfl
  simp only [w6, if_false, if_true]
  rw [a5, Option.bind_some]
  by_cases w7 : w = 7
  · subst w7; rfl
  simp only [w7, if_false, if_true]
  rw [a6, Option.bind_some]
  by_cases w8 : w = 8
  · subst w8; rfl
  simp only [w8, if_false, if_true]
  rw [if_neg (by omega)]
theorem x5_key {T : Nat → Nat} {z : Nat} {f : Nat → Nat → Int32} {r : Nat → Nat → Option Nat} (h : RD f r T z) {p q : Nat} (hp : f 3 5 = nI p) (hq : f 3 3 = nI q) (hpq : p ≤ q) (hqz : q ≤ z) (hw : ¬ (3 ≤ c_word T p q ∧ c_word T p q < 9)) : f_X5_keyToken SS 3 (f, r) = some (c_cc (c_wtok (c_word T p q)), (f, r)) := by
  have le := c_word_le T p q
  have a1 : f_X5_spells SS 3 1000007 (f, r) = some (if c_word T p q = 0 then 1 else 0, (f, r)) := x5_spells h hp hq hpq hqz (i := 7) (by omega) (by omega)
  have a2 : f_X5_spells SS 3 1000008 (f, r) = some (if c_word T p q = 1 then 1 else 0, (f, r)) := x5_spells h hp hq hpq hqz (i := 8) (by omega) (by omega)
  have a3 : f_X5_spells SS 3 1000009 (f, r) = some (if c_word T p q = 2 then 1 else 0, (f, r)) := x5_spells h hp hq hpq hqz (i := 9) (by omega) (by omega)
  have a4 : f_X5_spells SS 3 1000010 (f, r) = some (if c_word T p q = 10 then 1 else 0, (f, r)) := x5_spells h hp hq hpq hqz (i := 10) (by omega) (by omega)
  have a5 : f_X5_spells SS 3 1000011 (f, r) = some (if c_word T p q = 9 then 1 else 0, (f, r)) := x5_spells h hp hq hpq hqz (i := 11) (by omega) (by omega)
  have a6 : f_X5_spells SS 3 1000012 (f, r) = some (if c_word T p q = 11 then 1 else 0, (f, r)) := x5_spells h hp hq hpq hqz (i := 12) (by omega) (by omega)
  unfold f_X5_keyToken
  rw [if_pos ob5, a1, Option.bind_some]
  generalize c_word T p q = w at *
  by_cases w0 : w = 0
  · subst w0; rfl
  simp only [w0, if_false, if_true]
  rw [a2, Option.bind_some]
  by_cases w1 : w = 1
  · subst w1; rfl
  simp only [w1, if_false, if_true]
  rw [a3, Option.bind_some]
  by_cases w2 : w = 2
  · subst w2; rfl
  simp only [w2, if_false, if_true]
  rw [a4, Option.bind_some]
  by_cases w10 : w = 10
  · subst w10; rfl
  simp only [w10, if_false, if_true]
  rw [a5, Option.bind_some]
  by_cases w9 : w = 9
  · subst w9; rfl
  simp only [w9, if_false, if_true]
  rw [a6, Option.bind_some]
  by_cases w11 : w = 11
  · subst w11; rfl
  simp only [w11, if_false, if_true]
  have : w = 12 := by omega
  subst this
  rfl
theorem x5_sign {b : Nat} (hb : b < 256) (g : e_G) : f_X5_isSign SS (nI b) g = some (if c_stok b = 1 then 0 else 1, g) := by
  unfold f_X5_isSign J_X5_isSign_48
  have q : ∀ k : Nat, k < 256 → ((nI b = nI k) = (b = k)) := fun k hk => propext (nI_eq (by omega) (by omega))
  rw [show (40 : Int32) = nI 40 by decide +kernel, show (41 : Int32) = nI 41 by decide +kernel, show (59 : Int32) = nI 59 by decide +kernel, show (43 : Int32) = nI 43 by decide +kernel, show (45 : Int32) = nI 45 by decide +kernel, show (42 : Int32) = nI 42 by decide +kernel, show (60 : Int32) = nI 60 by decide +kernel, show (61 : Int32) = nI 61 by decide +kernel]
  simp only [q 40 (by omega), q 41 (by omega), q 59 (by omega), q 43 (by omega), q 45 (by omega), q 42 (by omega), q 60 (by omega), q 61 (by omega)]
  unfold c_stok
  by_cases h1 : b = 40
  · simp [h1]
  by_cases h2 : b = 41
  · simp [h2]
  by_cases h3 : b = 59
  · simp [h3]
  by_cases h4 : b = 43
  · simp [h4]
  by_cases h5 : b = 45
  · simp [h5]
  by_cases h6 : b = 42
  · simp [h6]
  by_cases h7 : b = 60
  · simp [h7]
  by_cases h8 : b = 61
  · simp [h8]
  simp [h1, h2, h3, h4, h5, h6, h7, h8]
theorem stok_cc : ∀ b, b < 256 → c_stok b ≠ 1 → c_cc (c_stok b) = nI b ∧ c_rc (c_stok b) = nI b := by decide +kernel
theorem stok_range : ∀ b, b < 256 → c_stok b = 1 ∨ (4 ≤ c_stok b ∧ c_stok b ≤ 11) := by decide +kernel
theorem wtok_range : ∀ w, w ≤ 12 → (c_wtok w = 3 ∧ 3 ≤ w ∧ w < 9) ∨ (¬ (3 ≤ w ∧ w < 9) ∧ c_wtok w ≠ 3 ∧ c_wtok w ≠ 2) := by decide +kernel
/-- class: a token is read -/
theorem x5_step {T : Nat → Nat} {z : Nat} {f : Nat → Nat → Int32} {r : Nat → Nat → Option Nat} (h : RD f r T z) {p : Nat} (hn : f 3 3 = nI p) (hp : p ≤ z) : ∃ f', f_X5_step SS 3 (f, r) = some (f', r) ∧ (∀ b, b ≠ 3 → f' b = f b) ∧ f' 3 2 = f 3 2 ∧ f' 3 7 = f 3 7 ∧ f' 3 3 = nI (lx_ T z p).2.2.2 ∧ f' 3 4 = c_cc (lx_ T z p).1 ∧ f' 3 5 = nI (lx_ T z p).2.1 ∧ ((lx_ T z p).1 = 2 ∨ (lx_ T z p).1 = 3 → f' 3 6 = (lx_ T z p).2.2.1) := by
  have z160 := h.2.2.1
  have s0 : f_X5_step SS 3 (f, r) = J_X5_step_52 SS 3 (e_up f 3 3 (nI (c_run (c_blank T) z (z - p) p)), r) := by
    unfold f_X5_step
    rw [if_pos ob5]
    exact x5_blank (z - p) p f 50000 h hn hp (by omega) (by omega)
  have sl := c_run_le (c_blank T) z (z - p) p hp
  rw [s0]
  unfold lx_
  simp only
  generalize hs : c_run (c_blank T) z (z - p) p = s at *
  obtain ⟨F, hF⟩ : ∃ F, F = e_up (e_up f 3 3 (nI s)) 3 5 (nI s) := ⟨_, rfl⟩
  have hR : RD F r T z := by rw [hF]; exact (h.up (by omega)).up (by omega)
  have F3 : F 3 3 = nI s := by rw [hF, e_up_ne (Or.inr (by omega)), e_up_eq]
  have F5 : F 3 5 = nI s := by rw [hF, e_up_eq]
  have Fr : ∀ b, b ≠ 3 → F b = f b := fun b hb => by rw [hF, e_up_row hb, e_up_row hb]
  have Fk : ∀ k, k ≠ 3 → k ≠ 5 → F 3 k = f 3 k := fun k h1 h2 => by rw [hF, e_up_ne (Or.inr h2), e_up_ne (Or.inr h1)]
  have j0 : J_X5_step_52 SS 3 (e_up f 3 3 (nI s), r) = if nI s < nI z then ((e_gR SS (F, r) 5 3 0).bind fun v9 => (e_gI SS (F, r) 5 3 3).bind fun v11 => (e_aI SS (F, r) 0 v9 v11).bind fun v13 => (f_X5_isLetter SS v13 (F, r)).bind fun q16 => if q16.1 = 0 then ((e_gR SS q16.2 5 3 0).bind fun v17 => (e_gI SS q16.2 5 3 3).bind fun v19 => (e_aI SS q16.2 0 v17 v19).bind fun v21 => (f_X5_isDigit SS v21 q16.2).bind fun q24 => if q24.1 = 0 then ((e_gR SS q24.2 5 3 0).bind fun v25 => (e_gI SS q24.2 5 3 3).bind fun v27 => (e_aI SS q24.2 0 v25 v27).bind fun v29 => (f_X5_isSign SS v29 q24.2).bind fun q32 => if q32.1 = 0 then J_X5_step_156 SS 3 3 (1001 : Int32) q32.2 else (e_gR SS q32.2 5 3 0).bind fun v33 => (e_gI SS q32.2 5 3 3).bind fun v35 => (e_aI SS q32.2 0 v33 v35).bind fun v37 => J_X5_step_156 SS 3 3 v37 q32.2) else (f_X5_takeNumber SS 3 q24.2).bind fun q40 => some q40) else (f_X5_takeWord SS 3 q16.2).bind fun q42 => some q42) else (e_sI SS (F, r) 5 3 4 (1000 : Int32)).bind fun g43 => some g43 := by
    unfold J_X5_step_52
    rw [gI_ok ob5, Option.bind_some, sI_ok ob5, Option.bind_some, show (e_up f 3 3 (nI s), r).1 3 3 = nI s by show e_up f 3 3 (nI s) 3 3 = _; rw [e_up_eq]]
    show (e_gI SS (e_up (e_up f 3 3 (nI s)) 3 5 (nI s), r) 5 3 3).bind _ = _
    rw [← hF, gI_ok ob5, Option.bind_some, gI_ok ob5, Option.bind_some, show (F, r).1 3 3 = nI s from F3, show (F, r).1 3 2 = nI z from hR.2.1]
  rw [j0]
  by_cases sz : s < z
  · obtain ⟨tb, -⟩ := h.2.2.2 s sz
    rw [if_pos (nI_lt sz (by omega)), if_pos sz, hR.r0, Option.bind_some, gI_ok ob5, Option.bind_some, show (F, r).1 3 3 = nI s from F3, hR.at sz, Option.bind_some, x5_lett tb, Option.bind_some]
    by_cases lt : 97 ≤ T s ∧ T s ≤ 122
    · have bl : c_lett T s = true := by unfold c_lett; simp [lt.1, lt.2]
      rw [if_pos lt, if_neg (show ¬ (1 : Int32) = 0 by decide), if_pos bl]
      have lle := c_run_le (c_lett T) z (z - s) s (by omega)
      generalize hq : c_run (c_lett T) z (z - s) s = q at *
      have w1 : f_X5_takeWord SS 3 (F, r) = J_X5_takeWord_39 SS 3 (e_up F 3 3 (nI q), r) := by
        unfold f_X5_takeWord
        rw [if_pos ob5]
        have := x5_letters (z - s) s F 50000 hR F3 (by omega) (by omega) (by omega)
        rw [hq] at this
        exact this
      obtain ⟨G, hGdef⟩ : ∃ G, G = e_up F 3 3 (nI q) := ⟨_, rfl⟩
      have gR : RD G r T z := by rw [hGdef]; exact hR.up (by omega)
      have G5 : G 3 5 = nI s := by rw [hGdef, e_up_ne (Or.inr (by omega))]; exact F5
      have G3 : G 3 3 = nI q := by rw [hGdef, e_up_eq]
      have Gk : ∀ k, k ≠ 3 → k ≠ 5 → G 3 k = f 3 k := fun k h1 h2 => by rw [hGdef, e_up_ne (Or.inr h1)]; exact Fk k h1 h2
      have Gr : ∀ b, b ≠ 3 → G b = f b := fun b hb => by rw [hGdef, e_up_row hb]; exact Fr b hb
      rw [show ((1 : Int32), (F, r)).2 = (F, r) from rfl, w1, ← hGdef]
      unfold J_X5_takeWord_39 J_X5_takeWord_65
      rw [x5_name gR G5 G3 lle.1 lle.2, Option.bind_some]
      rcases wtok_range _ (c_word_le T s q) with ⟨k1, k2, k3⟩ | ⟨k1, k2, k3⟩
      · rw [if_pos ⟨k2, k3⟩]
        simp only [sI_ok ob5, gI_ok ob5, Option.bind_some]
        rw [e_up_eq, if_neg (nI_pos (by omega))]
        refine ⟨e_up (e_up G 3 6 (nI (c_word T s q - 3))) 3 4 (1003 : Int32), rfl, fun b hb => by rw [e_up_row hb, e_up_row hb]; exact Gr b hb, by rw [e_up_ne (Or.inr (by omega)), e_up_ne (Or.inr (by omega))]; exact Gk 2 (by omega) (by omega), by rw [e_up_ne (Or.inr (by omega)), e_up_ne (Or.inr (by omega))]; exact Gk 7 (by omega) (by omega), by rw [e_up_ne (Or.inr (by omega)), e_up_ne (Or.inr (by omega))]; exact G3, by rw [e_up_eq, k1]; rfl, by rw [e_up_ne (Or.inr (by omega)), e_up_ne (Or.inr (by omega))]; exact G5, fun _ => by rw [e_up_ne (Or.inr (by omega)), e_up_eq]⟩
      · rw [if_neg k1]
        simp only [sI_ok ob5, gI_ok ob5, Option.bind_some]
        have gR2 : RD (e_up G 3 6 (-1)) r T z := gR.up (by omega)
        rw [e_up_eq, if_pos (by decide), x5_key gR2 (by rw [e_up_ne (Or.inr (by omega))]; exact G5) (by rw [e_up_ne (Or.inr (by omega))]; exact G3) lle.1 lle.2 k1]
        simp only [Option.bind_some]
        refine ⟨e_up (e_up G 3 6 (-1)) 3 4 (c_cc (c_wtok (c_word T s q))), rfl, fun b hb => by rw [e_up_row hb, e_up_row hb]; exact Gr b hb, by rw [e_up_ne (Or.inr (by omega)), e_up_ne (Or.inr (by omega))]; exact Gk 2 (by omega) (by omega), by rw [e_up_ne (Or.inr (by omega)), e_up_ne (Or.inr (by omega))]; exact Gk 7 (by omega) (by omega), by rw [e_up_ne (Or.inr (by omega)), e_up_ne (Or.inr (by omega))]; exact G3, by rw [e_up_eq], by rw [e_up_ne (Or.inr (by omega)), e_up_ne (Or.inr (by omega))]; exact G5, fun y => ?_⟩
        rcases y with y | y
        · exact absurd y k3
        · exact absurd y k2
    · have bl : ¬ c_lett T s = true := fun y => by
        unfold c_lett at y
        simp at y
        exact lt y
      rw [if_neg lt, if_pos rfl, if_neg bl, hR.r0, Option.bind_some, gI_ok ob5, Option.bind_some, show ((0 : Int32), (F, r)).2.1 3 3 = nI s from F3, hR.at sz, Option.bind_some, x5_dig tb, Option.bind_some]
      by_cases dg : 48 ≤ T s ∧ T s ≤ 57
      · have bd : c_dig T s = true := by unfold c_dig; simp [dg.1, dg.2]
        rw [if_pos dg, if_neg (show ¬ (1 : Int32) = 0 by decide), if_pos bd]
        have lle := c_run_le (c_dig T) z (z - s) s (by omega)
        have n1 : f_X5_takeNumber SS 3 (F, r) = J_X5_takeNumber_68 SS 3 (e_up (e_up (e_up F 3 6 0) 3 6 (c_nv T s (c_run (c_dig T) z (z - s) s - s))) 3 3 (nI (c_run (c_dig T) z (z - s) s)), r) := by
          unfold f_X5_takeNumber
          rw [if_pos ob5, sI_ok ob5, Option.bind_some]
          exact x5_digits (z - s) 0 (e_up F 3 6 0) 50000 (hR.up (by omega)) (by rw [e_up_ne (Or.inr (by omega))]; exact F3) (by rw [e_up_eq]; rfl) (by omega) (by omega) (by omega)
        generalize hq : c_run (c_dig T) z (z - s) s = q at *
        rw [e_up_up] at n1
        rw [show ((1 : Int32), (F, r)).2 = (F, r) from rfl, n1]
        obtain ⟨G, hGdef⟩ : ∃ G, G = e_up (e_up F 3 6 (c_nv T s (q - s))) 3 3 (nI q) := ⟨_, rfl⟩
        rw [← hGdef]
        have G3 : G 3 3 = nI q := by rw [hGdef, e_up_eq]
        have G5 : G 3 5 = nI s := by rw [hGdef, e_up_ne (Or.inr (by omega)), e_up_ne (Or.inr (by omega))]; exact F5
        have G6 : G 3 6 = c_nv T s (q - s) := by rw [hGdef, e_up_ne (Or.inr (by omega)), e_up_eq]
        have Gk : ∀ k, k ≠ 3 → k ≠ 5 → k ≠ 6 → G 3 k = f 3 k := fun k h1 h2 h3 => by rw [hGdef, e_up_ne (Or.inr h1), e_up_ne (Or.inr h3)]; exact Fk k h1 h2
        have Gr : ∀ b, b ≠ 3 → G b = f b := fun b hb => by rw [hGdef, e_up_row hb, e_up_row hb]; exact Fr b hb
        unfold J_X5_takeNumber_68 J_X5_takeNumber_91
        have k4 : (4 : Int32) = nI 4 := by decide +kernel
        simp only [gI_ok ob5, sI_ok ob5, Option.bind_some, G3, G5]
        rw [show nI q - nI s = nI (q - s) from (Int32.ofNat_sub _ _ lle.1).symm]
        by_cases y : q - s ≤ 4
        · rw [if_pos (by rw [k4]; exact nI_le y (by omega)), if_pos y]
          exact ⟨e_up G 3 4 1002, rfl, fun b hb => by rw [e_up_row hb]; exact Gr b hb, by rw [e_up_ne (Or.inr (by omega))]; exact Gk 2 (by omega) (by omega) (by omega), by rw [e_up_ne (Or.inr (by omega))]; exact Gk 7 (by omega) (by omega) (by omega), by rw [e_up_ne (Or.inr (by omega))]; exact G3, by rw [e_up_eq]; rfl, by rw [e_up_ne (Or.inr (by omega))]; exact G5, fun _ => by rw [e_up_ne (Or.inr (by omega))]; exact G6⟩
        · rw [if_neg (by rw [k4]; exact nI_ge (by omega) (by omega)), if_neg y]
          exact ⟨e_up G 3 4 1001, rfl, fun b hb => by rw [e_up_row hb]; exact Gr b hb, by rw [e_up_ne (Or.inr (by omega))]; exact Gk 2 (by omega) (by omega) (by omega), by rw [e_up_ne (Or.inr (by omega))]; exact Gk 7 (by omega) (by omega) (by omega), by rw [e_up_ne (Or.inr (by omega))]; exact G3, by rw [e_up_eq]; rfl, by rw [e_up_ne (Or.inr (by omega))]; exact G5, fun y => by rcases y with y | y <;> exact absurd y (by decide)⟩
      · have bd : ¬ c_dig T s = true := fun y => by
          unfold c_dig at y
          simp at y
          exact dg y
        have fin : ∀ v, v = c_cc (c_stok (T s)) → ∃ f', J_X5_step_156 SS 3 3 v (F, r) = some (f', r) ∧ (∀ b, b ≠ 3 → f' b = f b) ∧ f' 3 2 = f 3 2 ∧ f' 3 7 = f 3 7 ∧ f' 3 3 = nI (s + 1) ∧ f' 3 4 = c_cc (c_stok (T s)) ∧ f' 3 5 = nI s ∧ (c_stok (T s) = 2 ∨ c_stok (T s) = 3 → f' 3 6 = 0) := by
          intro v ev
          subst ev
          refine ⟨e_up (e_up F 3 4 (c_cc (c_stok (T s)))) 3 3 (nI (s + 1)), ?_, fun b hb => by rw [e_up_row hb, e_up_row hb]; exact Fr b hb, by rw [e_up_ne (Or.inr (by omega)), e_up_ne (Or.inr (by omega))]; exact Fk 2 (by omega) (by omega), by rw [e_up_ne (Or.inr (by omega)), e_up_ne (Or.inr (by omega))]; exact Fk 7 (by omega) (by omega), by rw [e_up_eq], by rw [e_up_ne (Or.inr (by omega)), e_up_eq], by rw [e_up_ne (Or.inr (by omega)), e_up_ne (Or.inr (by omega))]; exact F5, fun y => ?_⟩
          · unfold J_X5_step_156
            simp only [gI_ok ob5, sI_ok ob5, Option.bind_some]
            rw [e_up_ne (Or.inr (by omega)), F3, nI_1]
          · have := stok_range _ tb
            omega
        rw [if_neg dg, if_pos rfl, if_neg bd, hR.r0, Option.bind_some, gI_ok ob5, Option.bind_some, show ((0 : Int32), (F, r)).2.1 3 3 = nI s from F3, hR.at sz, Option.bind_some, x5_sign tb, Option.bind_some]
        by_cases y : c_stok (T s) = 1
        · rw [if_pos y, if_pos rfl]
          exact fin 1001 (by rw [y]; rfl)
        · rw [if_neg y, if_neg (show ¬ (1 : Int32) = 0 by decide), hR.r0, Option.bind_some, gI_ok ob5, Option.bind_some, show ((1 : Int32), (F, r)).2.1 3 3 = nI s from F3, hR.at sz, Option.bind_some]
          exact fin (nI (T s)) (stok_cc _ tb y).1.symm
  · rw [if_neg (nI_nlt (by omega) (by omega)), if_neg sz, sI_ok ob5, Option.bind_some]
    exact ⟨e_up F 3 4 1000, rfl, fun b hb => by rw [e_up_row hb]; exact Fr b hb, by rw [e_up_ne (Or.inr (by omega))]; exact Fk 2 (by omega) (by omega), by rw [e_up_ne (Or.inr (by omega))]; exact Fk 7 (by omega) (by omega), by rw [e_up_ne (Or.inr (by omega))]; exact F3, by rw [e_up_eq]; rfl, by rw [e_up_ne (Or.inr (by omega))]; exact F5, fun y => by rcases y with y | y <;> (have y := y; simp at y)⟩
