theorem m_wi (x lo hi : Int32) (g : e_G) : f_X11_within SS x lo hi g = some (if lo ≤ x then (if x ≤ hi then x else hi) else lo, g) := by
  unfold f_X11_within
  split
  · split <;> rfl
  · rfl
theorem s_bound_eq {x lo : Int32} (h : lo.toInt ≤ 99) : (if lo ≤ x then (if x ≤ 99 then x else 99) else lo) = s_bound x lo 99 := by
  have k99 : (99 : Int32).toInt = 99 := by decide +kernel
  unfold s_bound i_max i_min
  by_cases a : lo ≤ x
  · rw [if_pos a]
    have a' := Int32.le_iff_toInt_le.mp a
    by_cases b : x ≤ 99
    · rw [if_pos b]
      have b' := Int32.le_iff_toInt_le.mp b
      rw [k99] at b'
      by_cases c : x < 99
      · rw [if_pos c]
        by_cases d : lo < x
        · rw [if_pos d]
        · rw [if_neg d]
          apply Int32.toInt_inj.mp
          have d' : ¬ lo.toInt < x.toInt := fun z => d (Int32.lt_iff_toInt_lt.mpr z)
          omega
      · rw [if_neg c]
        have c' : ¬ x.toInt < (99 : Int32).toInt := fun z => c (Int32.lt_iff_toInt_lt.mpr z)
        rw [k99] at c'
        have ex : x = 99 := by
          apply Int32.toInt_inj.mp
          rw [k99]
          omega
        by_cases d : lo < 99
        · rw [if_pos d, ex]
        · rw [if_neg d]
          apply Int32.toInt_inj.mp
          have d' : ¬ lo.toInt < (99 : Int32).toInt := fun z => d (Int32.lt_iff_toInt_lt.mpr z)
          rw [k99] at d'
          omega
    · rw [if_neg b]
      have b' : ¬ x.toInt ≤ (99 : Int32).toInt := fun z => b (Int32.le_iff_toInt_le.mpr z)
      rw [k99] at b'
      rw [if_neg (show ¬ x < 99 from fun z => by have := Int32.lt_iff_toInt_lt.mp z; rw [k99] at this; omega)]
      by_cases d : lo < 99
      · rw [if_pos d]
      · rw [if_neg d]
        apply Int32.toInt_inj.mp
        have d' : ¬ lo.toInt < (99 : Int32).toInt := fun z => d (Int32.lt_iff_toInt_lt.mpr z)
        rw [k99] at d' ⊢
        omega
  · rw [if_neg a]
    have a' : ¬ lo.toInt ≤ x.toInt := fun z => a (Int32.le_iff_toInt_le.mpr z)
    rw [if_pos (show x < 99 from Int32.lt_iff_toInt_lt.mpr (by rw [k99]; omega)), if_neg (show ¬ lo < x from fun z => by have := Int32.lt_iff_toInt_lt.mp z; omega)]
/-- what the reference's names say of one -/
def m_nm (g : e_G) (n p : Nat) : Nat → Int32 := fun k => if k = 5 then g.1 78 p else if k = 4 then s_lookers (m_L g) n (m_W g p) else if k = 3 then g.1 76 4 else if k = 2 then s_beside2 (m_W g) (m_K g) n p else if k = 1 then s_far (m_W g p) (m_L g p) else if k = 0 then m_N g p else g.1 92 k
theorem MS.up {g : e_G} {n : Nat} (h : MS g n) {f : Nat → Nat → Int32} (e : f 76 = g.1 76) : MS (f, g.2) n := ⟨h.1, by show f 76 0 = _; rw [e]; exact h.2.1, h.2.2⟩
theorem m_asks {g : e_G} {n t : Nat} {tk : Nat → List (Nat × Int32)} (h : MS g n) (ht : t < 6) (hr : g.1 76 10 = nI t) (hT : RX g t tk) (hk : t_ok tk) {p q : Nat} (hp : p < 6) (hq : q < 3) {nm : Nat → Int32} (hnm : ∀ k, k < 6 → m_nm g n p k = nm k) :
    ∃ f', f_X11_asksOf SS 76 (nI q) (nI p) g = some (s_bound (t_val nm (tk q)) (if q = 1 then 0 else -99) 99, (f', g.2)) ∧ ∀ b, b ≠ 91 → b ≠ 92 → f' b = g.1 b := by
  have hG := h.1
  have A92 : ArA 0 92 6 := by unfold ArA; decide +kernel
  have A78 : ArA 0 78 6 := by unfold ArA; decide +kernel
  have k0 : (0 : Int32) = nI 0 := by decide +kernel
  have k1 : (1 : Int32) = nI 1 := by decide +kernel
  have k2 : (2 : Int32) = nI 2 := by decide +kernel
  have k3 : (3 : Int32) = nI 3 := by decide +kernel
  have k4 : (4 : Int32) = nI 4 := by decide +kernel
  have k5 : (5 : Int32) = nI 5 := by decide +kernel
  have W0 : ∀ (f : Nat → Nat → Int32) (v : Int32), e_aS SS (f, g.2) 0 92 (0 : Int32) v = some (e_up f 92 0 v, g.2) := fun f v => by rw [k0]; exact aS_ok A92 (by omega) (by omega)
  have W1 : ∀ (f : Nat → Nat → Int32) (v : Int32), e_aS SS (f, g.2) 0 92 (1 : Int32) v = some (e_up f 92 1 v, g.2) := fun f v => by rw [k1]; exact aS_ok A92 (by omega) (by omega)
  have W2 : ∀ (f : Nat → Nat → Int32) (v : Int32), e_aS SS (f, g.2) 0 92 (2 : Int32) v = some (e_up f 92 2 v, g.2) := fun f v => by rw [k2]; exact aS_ok A92 (by omega) (by omega)
  have W3 : ∀ (f : Nat → Nat → Int32) (v : Int32), e_aS SS (f, g.2) 0 92 (3 : Int32) v = some (e_up f 92 3 v, g.2) := fun f v => by rw [k3]; exact aS_ok A92 (by omega) (by omega)
  have W4 : ∀ (f : Nat → Nat → Int32) (v : Int32), e_aS SS (f, g.2) 0 92 (4 : Int32) v = some (e_up f 92 4 v, g.2) := fun f v => by rw [k4]; exact aS_ok A92 (by omega) (by omega)
  have W5 : ∀ (f : Nat → Nat → Int32) (v : Int32), e_aS SS (f, g.2) 0 92 (5 : Int32) v = some (e_up f 92 5 v, g.2) := fun f v => by rw [k5]; exact aS_ok A92 (by omega) (by omega)
  have r92 : ∀ f : Nat → Nat → Int32, e_gR SS (f, g.2) 11 76 28 = some 92 := fun f => (rf11 (g := (f, g.2)) hG).2.2.2.2.2.2.2.2.2.2.2.2.2.2.2.1
  have r79 : ∀ f : Nat → Nat → Int32, e_gR SS (f, g.2) 11 76 3 = some 79 := fun f => (rf11 (g := (f, g.2)) hG).2.2.1
  have r78 : ∀ f : Nat → Nat → Int32, e_gR SS (f, g.2) 11 76 2 = some 78 := fun f => (rf11 (g := (f, g.2)) hG).2.1
  obtain ⟨f1, hf1⟩ : ∃ f, f = e_up g.1 92 0 (m_N g p) := ⟨_, rfl⟩
  obtain ⟨f2, hf2⟩ : ∃ f, f = e_up f1 92 1 (s_far (m_W g p) (m_L g p)) := ⟨_, rfl⟩
  obtain ⟨f3, hf3⟩ : ∃ f, f = e_up f2 92 2 (s_beside2 (m_W g) (m_K g) n p) := ⟨_, rfl⟩
  obtain ⟨f4, hf4⟩ : ∃ f, f = e_up f3 92 3 (g.1 76 4) := ⟨_, rfl⟩
  obtain ⟨f5, hf5⟩ : ∃ f, f = e_up f4 92 4 (s_lookers (m_L g) n (m_W g p)) := ⟨_, rfl⟩
  obtain ⟨f6, hf6⟩ : ∃ f, f = e_up f5 92 5 (g.1 78 p) := ⟨_, rfl⟩
  have r1 : ∀ b, b ≠ 92 → f1 b = g.1 b := fun b hb => by rw [hf1, e_up_row hb]
  have r2 : ∀ b, b ≠ 92 → f2 b = g.1 b := fun b hb => by rw [hf2, e_up_row hb, r1 b hb]
  have r3 : ∀ b, b ≠ 92 → f3 b = g.1 b := fun b hb => by rw [hf3, e_up_row hb, r2 b hb]
  have r4 : ∀ b, b ≠ 92 → f4 b = g.1 b := fun b hb => by rw [hf4, e_up_row hb, r3 b hb]
  have r5 : ∀ b, b ≠ 92 → f5 b = g.1 b := fun b hb => by rw [hf5, e_up_row hb, r4 b hb]
  have r6 : ∀ b, b ≠ 92 → f6 b = g.1 b := fun b hb => by rw [hf6, e_up_row hb, r5 b hb]
  have mW : ∀ f : Nat → Nat → Int32, f 79 = g.1 79 → m_W (f, g.2) = m_W g := fun f e => by funext k; show f 79 _ = _; rw [e]; rfl
  have mL : ∀ f : Nat → Nat → Int32, f 79 = g.1 79 → m_L (f, g.2) = m_L g := fun f e => by funext k; show f 79 _ = _; rw [e]; rfl
  have mK : ∀ f : Nat → Nat → Int32, f 79 = g.1 79 → m_K (f, g.2) = m_K g := fun f e => by funext k; show f 79 _ = _; rw [e]; rfl
  have b2 := m_beside (h.up (f := f2) (r2 76 (by omega))) hp
  rw [mW f2 (r2 79 (by omega)), mK f2 (r2 79 (by omega))] at b2
  have b4 := fun w => m_lookers (h.up (f := f4) (r4 76 (by omega))) w
  rw [mL f4 (r4 79 (by omega))] at b4
  have nmE : ∀ k, k < 6 → f6 92 k = m_nm g n p k := by
    intro k hk
    rw [hf6, e_up_at, hf5, e_up_at, hf4, e_up_at, hf3, e_up_at, hf2, e_up_at, hf1, e_up_at]
    rfl
  have hX : RX (f6, g.2) t tk := by
    refine ⟨hT.1, fun p hp => ?_, fun p hp j hj => ?_⟩
    · show f6 82 _ = _
      rw [r6 82 (by omega)]
      exact hT.2.1 p hp
    · show f6 81 _ = _ ∧ _
      rw [r6 81 (by omega)]
      exact hT.2.2 p hp j hj
  obtain ⟨f7, c1, c2⟩ := m_says (g := (f6, g.2)) (t := t) (tk := tk) hG ht (by show f6 76 10 = _; rw [r6 76 (by omega)]; exact hr) hX hk hq (nm := nm) (fun k hk => (nmE k hk).trans (hnm k hk))
  refine ⟨f7, ?_, fun b h1 h2 => (c2 b h1).trans (r6 b h2)⟩
  unfold f_X11_asksOf
  rw [if_pos ob11, show g = (g.1, g.2) from rfl, r92, Option.bind_some, r79, Option.bind_some, m_aN _ hp, Option.bind_some, W0, Option.bind_some]
  rw [show e_up g.1 92 0 (m_N (g.1, g.2) p) = f1 from hf1.symm, r92, Option.bind_some, r79, Option.bind_some, m_aW _ hp, Option.bind_some, Option.bind_some, m_aL _ hp, Option.bind_some, m_far, Option.bind_some, W1, Option.bind_some, mW f1 (r1 79 (by omega)), mL f1 (r1 79 (by omega))]
  rw [show e_up f1 92 1 (s_far (m_W g p) (m_L g p)) = f2 from hf2.symm, r92, Option.bind_some, b2, Option.bind_some, W2, Option.bind_some, ← hf3]
  rw [r92, Option.bind_some, gI_ok ob11, Option.bind_some, show (f3, g.2).1 76 4 = g.1 76 4 by rw [show (f3, g.2).1 76 = g.1 76 from r3 76 (by omega)], W3, Option.bind_some, ← hf4]
  rw [r92, Option.bind_some, r79, Option.bind_some, m_aW _ hp, Option.bind_some, mW f4 (r4 79 (by omega)), b4, Option.bind_some, W4, Option.bind_some, ← hf5]
  rw [r92, Option.bind_some, r78, Option.bind_some, aI_ok A78 hp (by omega), Option.bind_some, show (f5, g.2).1 78 p = g.1 78 p by rw [show (f5, g.2).1 78 = g.1 78 from r5 78 (by omega)], W5, Option.bind_some, ← hf6, c1, Option.bind_some]
  by_cases q1 : q = 1
  · subst q1
    rw [if_pos k1.symm, if_pos rfl, J_X11_asksOf_110, m_wi, s_bound_eq (by decide +kernel), Option.bind_some]
  · rw [if_neg (fun z => q1 (nI_inj (by omega) (by omega) (z.trans k1))), if_neg q1, J_X11_asksOf_110, m_wi, s_bound_eq (by decide +kernel), Option.bind_some]
