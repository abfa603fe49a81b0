/-! untangle: the reference -/
theorem A94 : ArA 0 94 6 := by unfold ArA; decide +kernel
theorem A95 : ArA 0 95 6 := by unfold ArA; decide +kernel
theorem r94_ {f0 : Nat → Nat → Int32} {r : Nat → Nat → Option Nat} (hG : GG (f0, r)) : ∀ f, e_gR SS (f, r) 11 76 30 = some 94 := fun f => (rf11 (g := (f, r)) hG).2.2.2.2.2.2.2.2.2.2.2.2.2.2.2.2.2.1
theorem r95_ {f0 : Nat → Nat → Int32} {r : Nat → Nat → Option Nat} (hG : GG (f0, r)) : ∀ f, e_gR SS (f, r) 11 76 31 = some 95 := fun f => (rf11 (g := (f, r)) hG).2.2.2.2.2.2.2.2.2.2.2.2.2.2.2.2.2.2
theorem r79_ {f0 : Nat → Nat → Int32} {r : Nat → Nat → Option Nat} (hG : GG (f0, r)) : ∀ f, e_gR SS (f, r) 11 76 3 = some 79 := fun f => (rf11 (g := (f, r)) hG).2.2.1
/-- the members' row, and their looks' -/
def RM (f : Nat → Nat → Int32) (M : Nat → Nat) (s : Nat → Nat → Int32) (m : Nat) : Prop := f 76 32 = nI m ∧ ∀ k, k < m → f 94 k = nI (M k) ∧ f 95 k = s 2 (M k)
theorem mw_tells {f : Nat → Nat → Int32} {r : Nat → Nat → Option Nat} {n : Nat} {tk : Nat → Nat → List (Nat × Int32)} {s : Nat → Nat → Int32} (h : MW f r n tk s) (sd : Int32) : ∃ f', f_X11_tellsSide SS 76 sd (f, r) = some (f', r) ∧ (∀ b, b ≠ 94 → b ≠ 95 → b ≠ 76 → f' b = f b) ∧ (∀ k, k ≠ 32 → f' 76 k = f 76 k) ∧ RM f' (fun k => (u_M (w_P s sd) n).getD k 0) s (u_M (w_P s sd) n).length := by
  have hG : GG (f, r) := h.1.1
  have n6 := h.1.2.2
  have key := loopY (L := fun q i (x : Nat → Nat → Int32) => L_X11_tellsSide_7 q SS 76 sd i (x, r)) (n := n) (F := fun p (t : List Nat) => t ++ if w_P s sd p = true then [p] else [])
    (I := fun i t x => t.length ≤ i ∧ (∀ b, b ≠ 94 → b ≠ 95 → b ≠ 76 → x b = f b) ∧ (∀ k, k ≠ 32 → x 76 k = f 76 k) ∧ RM x (fun k => t.getD k 0) s t.length)
    (P := fun t q => ∃ f', q = (f', r) ∧ (∀ b, b ≠ 94 → b ≠ 95 → b ≠ 76 → f' b = f b) ∧ (∀ k, k ≠ 32 → f' 76 k = f 76 k) ∧ RM f' (fun k => t.getD k 0) s t.length)
    (fun q t x hI => by
      obtain ⟨i1, i2, i3, i4⟩ := hI
      refine ⟨(x, r), ?_, x, rfl, i2, i3, i4⟩
      show L_X11_tellsSide_7 (q + 1) SS 76 sd (nI n) (x, r) = _
      rw [L_X11_tellsSide_7, gI_ok ob11, Option.bind_some, show (x, r).1 76 0 = nI n from (i3 0 (by omega)).trans h.1.2.1, if_pos (nI_le (Nat.le_refl n) (by omega))])
    (fun q i t x hi hI => by
      obtain ⟨i1, i2, i3, i4⟩ := hI
      have hi6 : i < 6 := by omega
      have eW : m_W (x, r) i = s 1 i := by
        show x 79 (4 * i) = _
        rw [i2 79 (by omega) (by omega) (by omega)]
        exact h.row (j := 1) (by omega) (by omega) i hi
      have eL : x 79 (4 * i + 1) = s 2 i := by
        rw [i2 79 (by omega) (by omega) (by omega)]
        exact h.row (j := 2) (by omega) (by omega) i hi
      have e0 : (x, r).1 76 0 = nI n := (i3 0 (by omega)).trans h.1.2.1
      show ∃ s' : Nat → Nat → Int32, L_X11_tellsSide_7 (q + 1) SS 76 sd (nI i) (x, r) = L_X11_tellsSide_7 q SS 76 sd (nI (i + 1)) (s', r) ∧ _
      rw [L_X11_tellsSide_7, gI_ok ob11, Option.bind_some, e0, if_neg (nI_ge hi (by omega)), r79_ hG, Option.bind_some, m_aW (x, r) hi6, Option.bind_some, eW]
      by_cases y : s 1 i / 10 = sd
      · have y' : w_P s sd i = true := decide_eq_true y
        obtain ⟨x1, hx1⟩ : ∃ x1, x1 = e_up x 94 t.length (nI i) := ⟨_, rfl⟩
        obtain ⟨x2, hx2⟩ : ∃ x2, x2 = e_up x1 95 t.length (s 2 i) := ⟨_, rfl⟩
        have c1 : x1 76 = x 76 := by rw [hx1, e_up_row (by omega)]
        have c2 : x2 76 = x 76 := by rw [hx2, e_up_row (by omega), c1]
        have c3 : x1 79 = x 79 := by rw [hx1, e_up_row (by omega)]
        have st1 : e_aS SS (x, r) 0 94 (nI t.length) (nI i) = some (x1, r) := by rw [aS_ok A94 (show t.length < 6 by omega) (by omega), hx1]
        have st2 : e_aS SS (x1, r) 0 95 (nI t.length) (s 2 i) = some (x2, r) := by rw [aS_ok A95 (show t.length < 6 by omega) (by omega), hx2]
        rw [if_pos y, r94_ hG, Option.bind_some, gI_ok ob11, Option.bind_some, show (x, r).1 76 32 = nI t.length from i4.1, st1, Option.bind_some, r95_ hG, Option.bind_some, gI_ok ob11, Option.bind_some, show (x1, r).1 76 32 = nI t.length by show x1 76 32 = _; rw [c1]; exact i4.1, r79_ hG, Option.bind_some, m_aL (x1, r) hi6, Option.bind_some, show m_L (x1, r) i = s 2 i by show x1 79 _ = _; rw [c3]; exact eL, st2, Option.bind_some, gI_ok ob11, Option.bind_some, sI_ok ob11, Option.bind_some, show (x2, r).1 76 32 = nI t.length by show x2 76 32 = _; rw [c2]; exact i4.1, J_X11_tellsSide_69, nI_1, nI_1]
        refine ⟨e_up x2 76 32 (nI (t.length + 1)), rfl, ?_⟩
        show (t ++ if w_P s sd i = true then [i] else []).length ≤ _ ∧ _
        rw [if_pos y']
        refine ⟨by rw [List.length_append]; show t.length + 1 ≤ _; omega, fun b h1 h2 h3 => by rw [e_up_row h3, hx2, e_up_row h2, hx1, e_up_row h1]; exact i2 b h1 h2 h3, fun k hk => by rw [e_up_ne (Or.inr hk), c2]; exact i3 k hk, ?_⟩
        rw [List.length_append]
        refine ⟨e_up_eq, fun k hk => ?_⟩
        have hk : k < t.length + 1 := hk
        rw [e_up_row (by omega), e_up_row (by omega), hx2, e_up_ne (Or.inl (by omega)), hx1, e_up_at, e_up_at, e_up_row (by omega)]
        show _ = nI ((t ++ [i]).getD k 0) ∧ _ = s 2 ((t ++ [i]).getD k 0)
        by_cases z : k = t.length
        · rw [if_pos z, if_pos z, gd_one z]
          exact ⟨rfl, rfl⟩
        · rw [if_neg z, if_neg z, gd_app (by omega)]
          exact i4.2 k (by omega)
      · have y' : ¬ w_P s sd i = true := fun e => y (of_decide_eq_true e)
        rw [if_neg y, J_X11_tellsSide_69, nI_1]
        refine ⟨x, rfl, ?_⟩
        show (t ++ if w_P s sd i = true then [i] else []).length ≤ _ ∧ _
        rw [if_neg y', List.append_nil]
        exact ⟨by omega, i2, i3, i4⟩)
    n 0 50000 [] (e_up f 76 32 0) (by omega) (by omega) ⟨by simp, fun b _ _ h3 => e_up_row h3, fun k hk => e_up_ne (Or.inr hk), by rw [e_up_eq]; exact nI_0.symm, fun k hk => absurd hk (by simp)⟩
  have h0 : nI 0 = (0 : Int32) := nI_0
  rw [h0, u_M_it] at key
  obtain ⟨q, k1, f', k2, k3⟩ := key
  refine ⟨f', ?_, k3⟩
  unfold f_X11_tellsSide
  rw [if_pos ob11, sI_ok ob11, Option.bind_some]
  exact k1.trans (by rw [k2])
theorem u_full : ∀ m, m < 7 → ((1 : Int32) <<< (nI m &&& 31)) - 1 = nI (2 ^ m - 1) ∧ 2 ^ m - 1 < 64 := by decide +kernel
theorem mw_givL {r : Nat → Nat → Option Nat} {n : Nat} {tk : Nat → Nat → List (Nat × Int32)} {s : Nat → Nat → Int32} {M : Nat → Nat} {m : Nat} (m1 : 1 ≤ m) (m6 : m ≤ 6) (hM : MJ M m n) (hOp : ∀ i o, i < m → o < m → s_opp (s 1 (M i)) (s 2 (M o)) = 1) : ∀ j left seen tens acc f t fu, j ≤ m → left < 2 ^ 31 → seen < 64 → MW f r n tk t → (∀ q, q ≠ 2 → t q = s q) → RM f M s m → f 76 33 = nI acc → j < fu → ∃ f' t', L_X11_gives_20 fu SS 76 (nI left) (nI seen) (nI tens) (nI j + -1) (f, r) = some (if u_pm m j left seen = true then 1 else 0, (f', r)) ∧ MW f' r n tk t' ∧ (∀ q, q ≠ 2 → t' q = t q) ∧ (∀ i, i < j → t' 2 (M i) = s 2 (M ((left / m ^ (j - 1 - i)) % m))) ∧ (∀ p, (∀ i, i < j → M i ≠ p) → t' 2 p = t 2 p) ∧ f' 76 33 = nI (u_dg m j left tens acc) ∧ (∀ b, b ≠ 79 → b ≠ 76 → f' b = f b) ∧ ∀ k, k ≠ 33 → f' 76 k = f 76 k := by
  intro j
  induction j with
  | zero =>
    intro left seen tens acc f t fu hj hl hs hW hq hR h33 hf
    obtain ⟨fu, rfl⟩ : ∃ q, fu = q + 1 := ⟨fu - 1, by omega⟩
    have hG : GG (f, r) := hW.1.1
    refine ⟨f, t, ?_, hW, fun _ _ => rfl, fun i hi => by omega, fun _ _ => rfl, h33, fun _ _ _ => rfl, fun _ _ => rfl⟩
    obtain ⟨e1, e2⟩ := u_full m (by omega)
    rw [L_X11_gives_20, if_pos (show nI 0 + (-1 : Int32) < 0 by decide +kernel), gI_ok ob11, Option.bind_some, show (f, r).1 76 32 = nI m from hR.1, e1, u_pm]
    by_cases y : seen = 2 ^ m - 1
    · rw [if_pos (by rw [y]), if_pos (by rw [y]; exact Nat.beq_refl _)]
    · rw [if_neg (fun e => y (nI_inj (by omega) (by omega) e)), if_neg (fun e => y (Nat.eq_of_beq_eq_true e))]
  | succ j ih =>
    intro left seen tens acc f t fu hj hl hs hW hq hR h33 hf
    obtain ⟨fu, rfl⟩ : ∃ q, fu = q + 1 := ⟨fu - 1, by omega⟩
    have hG : GG (f, r) := hW.1.1
    have n6 := hW.1.2.2
    have d6 : left % m < m := Nat.mod_lt _ (by omega)
    have hMj := hM.1 j (by omega)
    have m0 : ¬ nI m = 0 := nI_ne0 (by omega) (by omega)
    obtain ⟨v, hv⟩ : ∃ v, v = s 2 (M (left % m)) := ⟨_, rfl⟩
    have e95 : f 95 (left % m) = v := by rw [hv]; exact (hR.2 _ d6).2
    have e94 : f 94 j = nI (M j) := (hR.2 j (by omega)).1
    have st : e_aS SS (f, r) 0 79 ((4 : Int32) * nI (M j) + 1) v = some (e_up f 79 (4 * M j + 1) v, r) := m_st (show M j < 6 by omega) (c := 1) (by omega) (by decide +kernel) v
    obtain ⟨f1, hf1⟩ : ∃ f1, f1 = e_up f 79 (4 * M j + 1) v := ⟨_, rfl⟩
    rw [← hf1] at st
    obtain ⟨f2, hf2⟩ : ∃ f2, f2 = e_up f1 76 33 (nI (acc + tens * (left % m + 1))) := ⟨_, rfl⟩
    have c76 : f1 76 = f 76 := by rw [hf1, e_up_row (by omega)]
    have hb : ∀ b, b ≠ 79 → b ≠ 76 → f2 b = f b := fun b h1 h2 => by rw [hf2, e_up_row h2, hf1, e_up_row h1]
    have hk : ∀ k, k ≠ 33 → f2 76 k = f 76 k := fun k h => by rw [hf2, e_up_ne (Or.inr h), c76]
    have hW1 : MW f1 r n tk (e_up t 2 (M j) v) := by
      rw [hf1]
      exact hW.up (c := 1) (j := 2) (by omega) (M j) v (wf_opp hW.2.2.1 hMj (by rw [hq 1 (by omega), hv]; exact hOp j _ (by omega) d6))
    have hW2 : MW f2 r n tk (e_up t 2 (M j) v) := hW1.of (by rw [hk 0 (by omega), c76]) (by rw [hk 4 (by omega), c76]) (by rw [hk 10 (by omega), c76]) (by rw [hf2, e_up_row (by omega)]) (by rw [hf2, e_up_row (by omega)]) (fun k _ => by rw [hf2, e_up_row (by omega)]) (by rw [hf2, e_up_row (by omega)]) (by rw [hf2, e_up_row (by omega)])
    have hs1 : seen ||| 2 ^ (left % m) < 64 := Nat.or_lt_two_pow (n := 6) hs (by
      have : 2 ^ (left % m) ≤ 2 ^ 5 := Nat.pow_le_pow_right (by omega) (by omega)
      omega)
    obtain ⟨f', t', i1, i2, i3, i4, i5, i6, i7, i8⟩ := ih (left / m) (seen ||| 2 ^ (left % m)) (tens * 10) (acc + tens * (left % m + 1)) f2 (e_up t 2 (M j) v) fu (by omega) (Nat.lt_of_le_of_lt (Nat.div_le_self _ _) hl) hs1 hW2 (fun q h => by rw [e_up_row h]; exact hq q h) ⟨(hk 32 (by omega)).trans hR.1, fun k h => by rw [hb 94 (by omega) (by omega), hb 95 (by omega) (by omega)]; exact hR.2 k h⟩ (by rw [hf2, e_up_eq]) (by omega)
    refine ⟨f', t', ?_, i2, fun q h => (i3 q h).trans (e_up_row h), fun i hi => ?_, fun p hp => ?_, i6, fun b h1 h2 => (i7 b h1 h2).trans (hb b h1 h2), fun k h => (i8 k h).trans (hk k h)⟩
    · rw [nI_m1, L_X11_gives_20, if_neg (nI_pos (by omega)), gI_ok ob11, Option.bind_some, show (f, r).1 76 32 = nI m from hR.1, if_neg m0, nI_rem hl (by omega), m_within (show left % m < 6 by omega), Option.bind_some, gI_ok ob11, Option.bind_some, show (f, r).1 76 32 = nI m from hR.1, if_neg m0, r79_ hG, Option.bind_some, r94_ hG, Option.bind_some, aI_ok A94 (show j < 6 by omega) (by omega), Option.bind_some, show (f, r).1 94 j = nI (M j) from e94, r95_ hG, Option.bind_some, aI_ok A95 (show left % m < 6 by omega) (by omega), Option.bind_some, show (f, r).1 95 (left % m) = v from e95, st, Option.bind_some, gI_ok ob11, Option.bind_some, show (f1, r).1 76 33 = nI acc by show f1 76 33 = _; rw [c76]; exact h33, sI_ok ob11, Option.bind_some, nI_div hl (by omega), bit_n _ (by omega), or_n, nI_1, show nI tens * nI (left % m + 1) = nI (tens * (left % m + 1)) from (Int32.ofNat_mul _ _).symm, nI_add, show nI tens * (10 : Int32) = nI (tens * 10) by rw [k_10]; exact (Int32.ofNat_mul _ _).symm]
      show L_X11_gives_20 fu SS 76 (nI (left / m)) (nI (seen ||| 2 ^ (left % m))) (nI (tens * 10)) (nI j + -1) (e_up f1 76 33 (nI (acc + tens * (left % m + 1))), r) = _
      rw [← hf2, i1, u_pm]
    · by_cases y : i = j
      · rw [y, i5 (M j) (fun i hi e => by have := hM.2 i j (by omega) (by omega) e; omega), e_up_eq, hv, show j + 1 - 1 - j = 0 by omega, Nat.pow_zero, Nat.div_one]
      · rw [i4 i (by omega), Nat.div_div_eq_div_mul, ← Nat.pow_succ', show (j - 1 - i).succ = j + 1 - 1 - i by omega]
    · rw [i5 p (fun i hi => hp i (by omega)), e_up_ne (Or.inr (fun e => hp j (by omega) e.symm))]
theorem mw_gives {f : Nat → Nat → Int32} {r : Nat → Nat → Option Nat} {n : Nat} {tk : Nat → Nat → List (Nat × Int32)} {s t : Nat → Nat → Int32} {M : Nat → Nat} {m : Nat} (m1 : 1 ≤ m) (m6 : m ≤ 6) (hM : MJ M m n) (hOp : ∀ i o, i < m → o < m → s_opp (s 1 (M i)) (s 2 (M o)) = 1) (hW : MW f r n tk t) (hU : UO s M m t) (hR : RM f M s m) {num : Nat} (hn : num < 2 ^ 31) : ∃ f' t', f_X11_gives SS 76 (nI num) (f, r) = some (if u_pm m m num 0 = true then 1 else 0, (f', r)) ∧ MW f' r n tk t' ∧ US s M (u_q m num) m t' ∧ f' 76 33 = nI (u_dg m m num 1 0) ∧ (∀ b, b ≠ 79 → b ≠ 76 → f' b = f b) ∧ ∀ k, k ≠ 33 → f' 76 k = f 76 k := by
  obtain ⟨f1, hf1⟩ : ∃ f1, f1 = e_up f 76 33 0 := ⟨_, rfl⟩
  have hb : ∀ b, b ≠ 76 → f1 b = f b := fun b h => by rw [hf1, e_up_row h]
  have hk : ∀ k, k ≠ 33 → f1 76 k = f 76 k := fun k h => by rw [hf1, e_up_ne (Or.inr h)]
  have hW1 : MW f1 r n tk t := hW.of (hk 0 (by omega)) (hk 4 (by omega)) (hk 10 (by omega)) (hb 77 (by omega)) (hb 78 (by omega)) (fun k _ => by rw [hb 79 (by omega)]) (hb 81 (by omega)) (hb 82 (by omega))
  have hR1 : RM f1 M s m := ⟨(hk 32 (by omega)).trans hR.1, fun k h => by rw [hb 94 (by omega), hb 95 (by omega)]; exact hR.2 k h⟩
  obtain ⟨f', t', i1, i2, i3, i4, i5, i6, i7, i8⟩ := mw_givL m1 m6 hM hOp m num 0 1 0 f1 t 50000 (Nat.le_refl m) hn (by omega) hW1 hU.1 hR1 (by rw [hf1, e_up_eq]; exact nI_0.symm) (by omega)
  refine ⟨f', t', ?_, i2, ⟨⟨fun q h => (i3 q h).trans (hU.1 q h), fun p hp => (i5 p hp).trans (hU.2 p hp)⟩, i4⟩, i6, fun b h1 h2 => (i7 b h1 h2).trans (hb b h2), fun k h => (i8 k h).trans (hk k h)⟩
  unfold f_X11_gives
  rw [if_pos ob11, sI_ok ob11, Option.bind_some]
  show ((e_gI SS (e_up f 76 33 0, r) 11 76 32).bind _) = _
  rw [← hf1, gI_ok ob11, Option.bind_some, show (f1, r).1 76 32 = nI m from hR1.1, Int32.sub_eq_add_neg]
  rw [nI_0, show nI 1 = (1 : Int32) by decide +kernel] at i1
  exact i1
