/-! copy, taken -/
theorem x6_row {f : Nat → Nat → Int32} {r : Nat → Nat → Option Nat} {i : Nat} (hi : i < 4) {z : Nat} (hz : f (37 + 2 * i) 2 = nI z) (h40 : z ≤ 40) (x y : Int32) : (f_X6_hasRow SS (37 + 2 * i) x y (f, r) = some (0, (f, r)) ∧ ¬ ∃ a b, x = nI a ∧ y = nI b ∧ a + b ≤ z) ∨ (f_X6_hasRow SS (37 + 2 * i) x y (f, r) = some (1, (f, r)) ∧ ∃ a b, x = nI a ∧ y = nI b ∧ a + b ≤ z) := by
  unfold f_X6_hasRow
  rw [if_pos (obSh i hi)]
  simp only [gI_ok (obSh i hi), Option.bind_some, hz]
  by_cases y0 : y < 0
  · rw [if_pos y0]
    refine Or.inl ⟨rfl, fun ⟨a, b, e1, e2, e3⟩ => ?_⟩
    rw [e2] at y0
    exact nI_pos (by omega) y0
  · rw [if_neg y0]
    by_cases yz : nI z < y
    · rw [if_pos yz]
      refine Or.inl ⟨rfl, fun ⟨a, b, e1, e2, e3⟩ => ?_⟩
      rw [e2] at yz
      exact nI_nlt (by omega) (by omega) yz
    · rw [if_neg yz]
      obtain ⟨b, hb, rfl⟩ := nI_ex (x := y) (n := z + 1) (by omega) y0 (by
        have : ¬ (nI z).toInt < y.toInt := fun w => yz (Int32.lt_iff_toInt_lt.mpr w)
        rw [nI_toInt (by omega)] at this
        refine Int32.lt_iff_toInt_lt.mpr ?_
        rw [nI_toInt (by omega)]
        omega)
      by_cases x0 : x < 0
      · rw [if_pos x0]
        refine Or.inl ⟨rfl, fun ⟨a, b, e1, e2, e3⟩ => ?_⟩
        rw [e1] at x0
        exact nI_pos (by omega) x0
      · rw [if_neg x0]
        have e : nI z - nI b = nI (z - b) := (Int32.ofNat_sub _ _ (by omega)).symm
        rw [e]
        by_cases xz : nI (z - b) < x
        · rw [if_pos xz]
          refine Or.inl ⟨rfl, fun ⟨a, b', e1, e2, e3⟩ => ?_⟩
          have := nI_inj (by omega) (by omega) e2
          rw [e1] at xz
          exact nI_nlt (by omega) (by omega) xz
        · rw [if_neg xz]
          obtain ⟨a, ha, rfl⟩ := nI_ex (x := x) (n := z - b + 1) (by omega) x0 (by
            have : ¬ (nI (z - b)).toInt < x.toInt := fun w => xz (Int32.lt_iff_toInt_lt.mpr w)
            rw [nI_toInt (by omega)] at this
            refine Int32.lt_iff_toInt_lt.mpr ?_
            rw [nI_toInt (by omega)]
            omega)
          exact Or.inr ⟨rfl, a, b, rfl, rfl, by omega⟩
/-- the reference moves numbers as a row that stays whole -/
theorem m_move {f : Nat → Nat → Int32} {r : Nat → Nat → Option Nat} (hG : GG (f, r)) {a b n : Nat} (ha : a + n ≤ 160) (hb : b + n ≤ 160) : ∃ f', L_X11_copy_147 50000 SS 76 (nI n) (nI a) (nI b) 0 (f, r) = some (nI n, (f', r)) ∧ (∀ q, q ≠ 87 → f' q = f q) ∧ ∀ k, f' 87 k = if b ≤ k ∧ k < b + n then f 87 (a + (k - b)) else f 87 k := by
  have r87 : ∀ f, e_gR SS (f, r) 11 76 16 = some 87 := fun f => (rf11 (g := (f, r)) hG).2.2.2.2.2.2.2.2.2.2.1
  have A87 : ArA 0 87 160 := by unfold ArA; decide +kernel
  by_cases up : b ≤ a
  · have key := loopR (L := fun m j (q : Nat → Nat → Int32) => L_X11_copy_147 m SS 76 (nI n) (nI a) (nI b) j (q, r)) (n := n)
      (I := fun j q => (∀ c, c ≠ 87 → q c = f c) ∧ ∀ k, q 87 k = if b ≤ k ∧ k < b + j then f 87 (a + (k - b)) else f 87 k)
      (P := fun q => ∃ f', q = (nI n, (f', r)) ∧ (∀ q, q ≠ 87 → f' q = f q) ∧ ∀ k, f' 87 k = if b ≤ k ∧ k < b + n then f 87 (a + (k - b)) else f 87 k)
      (fun m q hI => by
        refine ⟨(nI n, (q, r)), ?_, q, rfl, hI⟩
        show L_X11_copy_147 (m + 1) SS 76 (nI n) (nI a) (nI b) (nI n) (q, r) = _
        rw [L_X11_copy_147, if_pos (nI_le (Nat.le_refl n) (by omega))])
      (fun m j q hj hI => by
        refine ⟨e_up q 87 (b + j) (q 87 (a + j)), ?_, fun c hc => by rw [e_up_row hc]; exact hI.1 c hc, fun k => ?_⟩
        · show L_X11_copy_147 (m + 1) SS 76 (nI n) (nI a) (nI b) (nI j) (q, r) = _
          rw [L_X11_copy_147, if_neg (nI_ge hj (by omega)), if_pos (nI_le up (by omega)), J_X11_copy_173, r87, Option.bind_some, Option.bind_some, nI_add, aI_ok A87 (by omega) (by omega), Option.bind_some, nI_add, aS_ok A87 (by omega) (by omega), Option.bind_some, nI_1]
        · rw [e_up_at]
          by_cases z : k = b + j
          · rw [if_pos z, if_pos (by omega), hI.2, if_neg (by omega)]
            congr 1
            omega
          · rw [if_neg z, hI.2 k]
            by_cases y : b ≤ k ∧ k < b + j
            · rw [if_pos y, if_pos (by omega)]
            · rw [if_neg y, if_neg (by omega)])
      n 0 50000 f (by omega) (by omega) ⟨fun _ _ => rfl, fun k => by rw [if_neg (by omega)]⟩
    rw [nI_0] at key
    obtain ⟨q, k1, f', k2, k3⟩ := key
    exact ⟨f', k1.trans (by rw [k2]), k3⟩
  · have key := loopR (L := fun m j (q : Nat → Nat → Int32) => L_X11_copy_147 m SS 76 (nI n) (nI a) (nI b) j (q, r)) (n := n)
      (I := fun j q => (∀ c, c ≠ 87 → q c = f c) ∧ ∀ k, q 87 k = if b + (n - j) ≤ k ∧ k < b + n then f 87 (a + (k - b)) else f 87 k)
      (P := fun q => ∃ f', q = (nI n, (f', r)) ∧ (∀ q, q ≠ 87 → f' q = f q) ∧ ∀ k, f' 87 k = if b ≤ k ∧ k < b + n then f 87 (a + (k - b)) else f 87 k)
      (fun m q hI => by
        refine ⟨(nI n, (q, r)), ?_, q, rfl, hI.1, fun k => by rw [hI.2 k, Nat.sub_self]; rfl⟩
        show L_X11_copy_147 (m + 1) SS 76 (nI n) (nI a) (nI b) (nI n) (q, r) = _
        rw [L_X11_copy_147, if_pos (nI_le (Nat.le_refl n) (by omega))])
      (fun m j q hj hI => by
        have ex : nI n - 1 - nI j = nI (n - 1 - j) := by
          rw [show nI n - 1 = nI (n - 1) by rw [show n = (n - 1) + 1 by omega, nI_pred]; rfl]
          exact (Int32.ofNat_sub _ _ (by omega)).symm
        refine ⟨e_up q 87 (b + (n - 1 - j)) (q 87 (a + (n - 1 - j))), ?_, fun c hc => by rw [e_up_row hc]; exact hI.1 c hc, fun k => ?_⟩
        · show L_X11_copy_147 (m + 1) SS 76 (nI n) (nI a) (nI b) (nI j) (q, r) = _
          rw [L_X11_copy_147, if_neg (nI_ge hj (by omega)), if_neg (nI_ge (by omega) (by omega)), J_X11_copy_173, r87, Option.bind_some, Option.bind_some, ex, nI_add, aI_ok A87 (by omega) (by omega), Option.bind_some, nI_add, aS_ok A87 (by omega) (by omega), Option.bind_some, nI_1]
        · rw [e_up_at]
          by_cases z : k = b + (n - 1 - j)
          · rw [if_pos z, if_pos (by omega), hI.2, if_neg (by omega)]
            congr 1
            omega
          · rw [if_neg z, hI.2 k]
            by_cases y : b + (n - j) ≤ k ∧ k < b + n
            · rw [if_pos y, if_pos (by omega)]
            · rw [if_neg y, if_neg (by omega)])
      n 0 50000 f (by omega) (by omega) ⟨fun _ _ => rfl, fun k => by rw [if_neg (by omega)]⟩
    rw [nI_0] at key
    obtain ⟨q, k1, f', k2, k3⟩ := key
    exact ⟨f', k1.trans (by rw [k2]), k3⟩
theorem ok_copy : OK_copy SS Inv_ := by
  intro g a1 a2 a3 a4 a5 hI
  obtain ⟨f, r⟩ := g
  obtain ⟨n, tc, tz, tk, s, h⟩ := hI
  have h : IN f r n tc tz tk s := h
  have hG : GG (f, r) := h.1.cs.1
  have h10 := rf10 hG
  have no : ¬ (1 : Int32) = 0 := by decide
  have A85 : ArA 0 85 4 := by unfold ArA; decide +kernel
  have A86 : ArA 0 86 4 := by unfold ArA; decide +kernel
  rcases arg3 a1 3 4 3 (by decide +kernel) (by decide +kernel) (by omega) with ⟨q1, q2⟩ | ⟨q1, q2, q3, q4, q5, q6⟩ | ⟨i, hi, rfl, q1, q2, q3, q4, q5, q6⟩
  · exact ask0 h (-2) (by unfold f_X10_copy; rw [if_pos ob10, x10_sh, if_pos q1, Option.bind_some, if_pos rfl]) (by unfold f_X11_copy; rw [if_pos ob11, m_in, Option.bind_some, q2, if_pos rfl])
  · exact ask0 h (-2) (by unfold f_X10_copy; rw [if_pos ob10, x10_sh, if_neg q1, if_pos q3, Option.bind_some, if_pos rfl]) (by unfold f_X11_copy; rw [if_pos ob11, m_in, Option.bind_some, q6, if_pos rfl])
  · rcases arg3 a3 3 4 3 (by decide +kernel) (by decide +kernel) (by omega) with ⟨p1, p2⟩ | ⟨p1, p2, p3, p4, p5, p6⟩ | ⟨o, ho, rfl, p1, p2, p3, p4, p5, p6⟩
    · exact ask0 h (-2) (by unfold f_X10_copy; rw [if_pos ob10, x10_sh, if_neg q1, if_neg q3, Option.bind_some, if_neg no, x10_sh, if_pos p1, Option.bind_some, if_pos rfl]) (by unfold f_X11_copy; rw [if_pos ob11, m_in, Option.bind_some, q6, if_neg no, m_in, Option.bind_some, p2, if_pos rfl])
    · exact ask0 h (-2) (by unfold f_X10_copy; rw [if_pos ob10, x10_sh, if_neg q1, if_neg q3, Option.bind_some, if_neg no, x10_sh, if_neg p1, if_pos p3, Option.bind_some, if_pos rfl]) (by unfold f_X11_copy; rw [if_pos ob11, m_in, Option.bind_some, q6, if_neg no, m_in, Option.bind_some, p6, if_pos rfl])
    · have hi4 : i < 4 := by omega
      have ho4 : o < 4 := by omega
      obtain ⟨so, z, hs⟩ := h.2.2.2.2.2.2.2.1 i hi4
      obtain ⟨so', z', hs'⟩ := h.2.2.2.2.2.2.2.1 o ho4
      obtain ⟨c1, c2, c3, c4, c5, c6⟩ := id hs
      obtain ⟨d1, d2, d3, d4, d5, d6⟩ := id hs'
      have rowA := x6_row (r := r) hi4 c3 c5 a2 a5
      have rowB := x6_row (r := r) ho4 d3 d5 a4 a5
      have x1 : f_X10_copy SS 0 (nI i) a2 (nI o) a4 a5 (f, r) = if so = -1 then some (-11, (f, r)) else if so' = -1 then some (-11, (f, r)) else if so = so' then ((f_X6_hasRow SS (37 + 2 * i) a2 a5 (f, r)).bind fun q22 => if q22.1 = 0 then some (-12, q22.2) else (f_X6_hasRow SS (37 + 2 * o) a4 a5 q22.2).bind fun q24 => if q24.1 = 0 then some (-12, q24.2) else (e_gR SS q24.2 6 (37 + 2 * i) 0).bind fun v25 => (e_gR SS q24.2 6 (37 + 2 * o) 0).bind fun v27 => (e_cpy SS q24.2 v25 a2 v27 a4 a5).bind fun g30 => some (a5, g30)) else some (-13, (f, r)) := by
        unfold f_X10_copy f_X6_isMissing
        rw [if_pos ob10, x10_sh, if_neg q1, if_neg q3, Option.bind_some, if_neg no, x10_sh, if_neg p1, if_neg p3, Option.bind_some, if_neg no]
        simp only [h10, Option.bind_some, rfShs hG hi4, rfShs hG ho4, if_pos (obSh i hi4), if_pos (obSh o ho4), gI_ok (obSh i hi4), gI_ok (obSh o ho4), c1, d1]
        by_cases y : so = -1
        · rw [if_pos y, if_pos y, Option.bind_some, if_neg no]
        · rw [if_neg y, if_neg y, Option.bind_some, if_pos rfl]
          simp only [c1, d1]
          by_cases y' : so' = -1
          · simp only [y', if_true, Option.bind_some, z10, if_false]
          · simp only [y', if_false, Option.bind_some, if_true, c1, d1]
      have x2 : ∀ f1 : Nat → Nat → Int32, f1 85 = f 85 → f1 86 = f 86 → f_X11_copy SS 76 (nI i) a2 (nI o) a4 a5 (f1, r) = if so = -1 then some (-11, (f1, r)) else if so' = -1 then some (-11, (f1, r)) else if so = so' then (if a5 < 0 then some (-12, (f1, r)) else if a2 < 0 then some (-12, (f1, r)) else if a4 < 0 then some (-12, (f1, r)) else if nI z < a2 then some (-12, (f1, r)) else if nI z' < a4 then some (-12, (f1, r)) else if nI z - a2 < a5 then some (-12, (f1, r)) else if a5 ≤ nI z' - a4 then L_X11_copy_147 50000 SS 76 a5 ((40 : Int32) * nI i + a2) ((40 : Int32) * nI o + a4) 0 (f1, r) else some (-12, (f1, r))) else some (-13, (f1, r)) := by
        intro f1 e85 e86
        have h11 := rf11 (show GG (f1, r) from hG)
        unfold f_X11_copy
        rw [if_pos ob11, m_in, Option.bind_some, q6, if_neg no, m_in, Option.bind_some, p6, if_neg no]
        simp only [h11, Option.bind_some, aI_ok A85 hi4 (by omega : 4 < 2 ^ 31), aI_ok A85 ho4 (by omega : 4 < 2 ^ 31), aI_ok A86 hi4 (by omega : 4 < 2 ^ 31), aI_ok A86 ho4 (by omega : 4 < 2 ^ 31), e85, e86, c2, c4, d2, d4]
      by_cases y : so = -1
      · exact ask0 h (-11) (by rw [x1, if_pos y]) (by rw [x2 f rfl rfl, if_pos y])
      by_cases y' : so' = -1
      · exact ask0 h (-11) (by rw [x1, if_neg y, if_pos y']) (by rw [x2 f rfl rfl, if_neg y, if_pos y'])
      by_cases ye : so = so'
      · by_cases good : ∃ a b c, a2 = nI a ∧ a4 = nI b ∧ a5 = nI c ∧ a + c ≤ z ∧ b + c ≤ z'
        · obtain ⟨a, b, c, e1, e2, e3, l1, l2⟩ := good
          have rA : f_X6_hasRow SS (37 + 2 * i) a2 a5 (f, r) = some (1, (f, r)) := by
            rcases rowA with ⟨-, w⟩ | ⟨w, -⟩
            · exact absurd ⟨a, c, e1, e3, l1⟩ w
            · exact w
          have rB : f_X6_hasRow SS (37 + 2 * o) a4 a5 (f, r) = some (1, (f, r)) := by
            rcases rowB with ⟨-, w⟩ | ⟨w, -⟩
            · exact absurd ⟨b, c, e2, e3, l2⟩ w
            · exact w
          subst e1
          subst e2
          subst e3
          obtain ⟨F, hF⟩ : ∃ F : Nat → Nat → Int32, F = fun q => if q = 38 + 2 * o then va_cpy (f (38 + 2 * i)) (f (38 + 2 * o)) a b c else f q := ⟨_, rfl⟩
          have rF : ∀ q, q ≠ 38 + 2 * o → F q = f q := fun q hq => by rw [hF]; exact if_neg hq
          have aF : F (38 + 2 * o) = va_cpy (f (38 + 2 * i)) (f (38 + 2 * o)) a b c := by rw [hF]; exact if_pos rfl
          have cpy : e_cpy SS (f, r) (38 + 2 * i) (nI a) (38 + 2 * o) (nI b) (nI c) = some (F, r) := by
            unfold e_cpy
            have A1 := arSh i hi4
            have A2 := arSh o ho4
            rw [A1.1, A2.1, A1.2, A2.2, nI_clamp (by omega), nI_clamp (by omega), nI_clamp (by omega), decide_eq_true (nI_pos' (show a < 2 ^ 31 by omega)), decide_eq_true (nI_pos' (show b < 2 ^ 31 by omega)), decide_eq_true (nI_pos' (show c < 2 ^ 31 by omega)), decide_eq_true (show a + c ≤ 40 by omega), decide_eq_true (show b + c ≤ 40 by omega), hF]
            rfl
          have hGF : GG (F, r) := hG
          obtain ⟨f2, b1, b2, b3⟩ := m_move hGF (a := 40 * i + a) (b := 40 * o + b) (n := c) (by omega) (by omega)
          have e87 : F 87 = f 87 := rF 87 (by omega)
          have all : ∀ q, q ≠ 38 + 2 * o → q ≠ 87 → f2 q = f q := fun q h1 h2 => by rw [b2 q h2, rF q h1]
          refine do_ (nI c) (f1 := F) (f2 := f2) (n := n) (tc := tc) (tz := tz) (tk := tk) (s := s) ?_ ?_ ⟨?_, ?_, ?_⟩
          · rw [x1, if_neg y, if_neg y', if_pos ye, rA, Option.bind_some, if_neg no, rB, Option.bind_some, if_neg no, rfSh hG i hi4, Option.bind_some, rfSh hG o ho4, Option.bind_some, cpy]
            rfl
          · have n1 : nI z - nI a = nI (z - a) := (Int32.ofNat_sub _ _ (by omega)).symm
            have n2 : nI z' - nI b = nI (z' - b) := (Int32.ofNat_sub _ _ (by omega)).symm
            rw [x2 F (rF 85 (by omega)) (rF 86 (by omega)), if_neg y, if_neg y', if_pos ye, if_neg (nI_pos (by omega)), if_neg (nI_pos (by omega)), if_neg (nI_pos (by omega)), if_neg (nI_nlt (by omega) (by omega)), if_neg (nI_nlt (by omega) (by omega)), n1, if_neg (nI_nlt (by omega) (by omega)), n2, if_pos (nI_le (by omega) (by omega)), nI_40j, nI_40j]
            exact b1
          · exact h.1.of2 (fun j hj => all _ (by omega) (by omega)) (fun q x1 x2 _ => all q (by omega) (by omega))
          · exact h.2.1.of (by rw [all 76 (by omega) (by omega)]) (by rw [all 76 (by omega) (by omega)]) (by rw [all 76 (by omega) (by omega)]) (all 77 (by omega) (by omega)) (all 78 (by omega) (by omega)) (fun j _ => by rw [all 79 (by omega) (by omega)]) (all 81 (by omega) (by omega)) (all 82 (by omega) (by omega))
          · refine h.2.2.sh (fun q _ _ h1 h2 h3 h4 h5 => all q h2 h5) (fun j _ => by rw [all 76 (by omega) (by omega)]) ho4 (so := so') (z := z') ⟨?_, ?_, ?_, ?_, d5, fun k hk => ?_⟩ (fun j hj hne => ⟨by rw [all 85 (by omega) (by omega)], by rw [all 86 (by omega) (by omega)], fun q hq => by rw [b3, if_neg (by omega), e87]⟩)
            · rw [all _ (by omega) (by omega)]; exact d1
            · rw [all _ (by omega) (by omega)]; exact d2
            · rw [all _ (by omega) (by omega)]; exact d3
            · rw [all _ (by omega) (by omega)]; exact d4
            · rw [b2 _ (by omega), aF, b3, e87]
              unfold va_cpy
              by_cases w : b ≤ k ∧ k < b + c
              · rw [if_pos w, if_pos (by omega), c6 _ (by omega)]
                congr 1
                omega
              · rw [if_neg w, if_neg (by omega)]
                exact d6 k hk
        · refine ask0 h (-12) ?_ ?_
          · rw [x1, if_neg y, if_neg y', if_pos ye]
            rcases rowA with ⟨w, -⟩ | ⟨w, a, c, e1, e3, l1⟩
            · rw [w, Option.bind_some, if_pos rfl]
            · rw [w, Option.bind_some, if_neg no]
              rcases rowB with ⟨v, -⟩ | ⟨v, b, c', e2, e4, l2⟩
              · rw [v, Option.bind_some, if_pos rfl]
              · have := nI_inj (by omega) (by omega) (e3.symm.trans e4)
                subst this
                exact absurd ⟨a, b, c, e1, e2, e3, l1, l2⟩ good
          · rw [x2 f rfl rfl, if_neg y, if_neg y', if_pos ye]
            by_cases g1 : a5 < 0
            · rw [if_pos g1]
            rw [if_neg g1]
            by_cases g2 : a2 < 0
            · rw [if_pos g2]
            rw [if_neg g2]
            by_cases g3 : a4 < 0
            · rw [if_pos g3]
            rw [if_neg g3]
            by_cases g4 : nI z < a2
            · rw [if_pos g4]
            rw [if_neg g4]
            by_cases g5 : nI z' < a4
            · rw [if_pos g5]
            rw [if_neg g5]
            have lt1 : ∀ {x : Int32} {m : Nat}, m ≤ 40 → ¬ nI m < x → x < nI (m + 1) := by
              intro x m hm w
              have : ¬ (nI m).toInt < x.toInt := fun v => w (Int32.lt_iff_toInt_lt.mpr v)
              rw [nI_toInt (by omega)] at this
              refine Int32.lt_iff_toInt_lt.mpr ?_
              rw [nI_toInt (by omega)]
              omega
            obtain ⟨a, ha, ea⟩ := nI_ex (x := a2) (n := z + 1) (by omega) g2 (lt1 c5 g4)
            obtain ⟨b, hb, eb⟩ := nI_ex (x := a4) (n := z' + 1) (by omega) g3 (lt1 d5 g5)
            have n1 : nI z - a2 = nI (z - a) := by rw [ea]; exact (Int32.ofNat_sub _ _ (by omega)).symm
            have n2 : nI z' - a4 = nI (z' - b) := by rw [eb]; exact (Int32.ofNat_sub _ _ (by omega)).symm
            by_cases g6 : nI z - a2 < a5
            · rw [if_pos g6]
            rw [if_neg g6]
            rw [n1] at g6
            obtain ⟨c, hc, ec⟩ := nI_ex (x := a5) (n := z - a + 1) (by omega) g1 (lt1 (by omega) g6)
            rw [if_neg]
            intro w
            rw [n2, ec] at w
            have w2 := (nI_leI (by omega) (by omega)).mp w
            exact good ⟨a, b, c, ea, eb, ec, by omega, by omega⟩
      · exact ask0 h (-13) (by rw [x1, if_neg y, if_neg y', if_neg ye]) (by rw [x2 f rfl rfl, if_neg y, if_neg y', if_neg ye])
