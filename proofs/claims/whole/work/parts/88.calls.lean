/-! sheet, cell, film, copy -/
/-- one sheet is another, the rest is as it was -/
theorem RE.sh {f f' : Nat → Nat → Int32} {r : Nat → Nat → Option Nat} {n tc tz : Nat} {tk : Nat → Nat → List (Nat × Int32)} {s : Nat → Nat → Int32} (h : RE f r n tc tz tk s) {i : Nat} (k : ∀ b, NS b → (b < 45 ∨ (68 ≤ b ∧ b < 75) ∨ (80 ≤ b ∧ b < 91)) → b ≠ 37 + 2 * i → b ≠ 38 + 2 * i → b ≠ 85 → b ≠ 86 → b ≠ 87 → f' b = f b) (k76 : ∀ j, (j = 6 ∨ j = 9 ∨ j = 11) → f' 76 j = f 76 j) {so : Int32} {z : Nat} (hi4 : i < 4) (hs : SH f' i so z) (ho : ∀ j, j < 4 → j ≠ i → f' 85 j = f 85 j ∧ f' 86 j = f 86 j ∧ ∀ k, k < 40 → f' 87 (40 * j + k) = f 87 (40 * j + k)) : RE f' r n tc tz tk s := by
  obtain ⟨⟨a1, a2, a3⟩, ⟨b1, b2, b3, b4⟩, h3, h4, h5, h6, h7⟩ := h
  have e0 : f' 0 = f 0 := k 0 (by unfold NS; omega) (by omega) (by omega) (by omega) (by omega) (by omega) (by omega)
  have e4 : f' 4 = f 4 := k 4 (by unfold NS; omega) (by omega) (by omega) (by omega) (by omega) (by omega) (by omega)
  have e80 : f' 80 = f 80 := k 80 (by unfold NS; omega) (by omega) (by omega) (by omega) (by omega) (by omega) (by omega)
  have e89 : f' 89 = f 89 := k 89 (by unfold NS; omega) (by omega) (by omega) (by omega) (by omega) (by omega) (by omega)
  have e81 : f' 81 = f 81 := k 81 (by unfold NS; omega) (by omega) (by omega) (by omega) (by omega) (by omega) (by omega)
  have e82 : f' 82 = f 82 := k 82 (by unfold NS; omega) (by omega) (by omega) (by omega) (by omega) (by omega) (by omega)
  have e83 : f' 83 = f 83 := k 83 (by unfold NS; omega) (by omega) (by omega) (by omega) (by omega) (by omega) (by omega)
  have e84 : f' 84 = f 84 := k 84 (by unfold NS; omega) (by omega) (by omega) (by omega) (by omega) (by omega) (by omega)
  refine ⟨⟨by rw [e0]; exact a1, (k76 9 (by omega)).trans a2, a3⟩, ⟨by rw [e0]; exact b1, (k76 6 (by omega)).trans b2, b3, by rw [e4, e80, e89]; exact b4⟩, fun t ht => ?_, h4, h5, fun j hj => ?_, ?_⟩
  · obtain ⟨c1, c2, c3⟩ := h3 t ht
    exact ⟨c1.of (k _ (by unfold NS; omega) (by omega) (by omega) (by omega) (by omega) (by omega) (by omega)) (k _ (by unfold NS; omega) (by omega) (by omega) (by omega) (by omega) (by omega) (by omega)) (k _ (by unfold NS; omega) (by omega) (by omega) (by omega) (by omega) (by omega) (by omega)), c2.of e81 e82, c3⟩
  · by_cases e : j = i
    · subst e
      exact ⟨so, z, hs⟩
    · obtain ⟨so', z', c1, c2, c3, c4, c5, c6⟩ := h6 j hj
      obtain ⟨d1, d2, d3⟩ := ho j hj e
      have y1 : f' (37 + 2 * j) = f (37 + 2 * j) := k _ (by unfold NS; omega) (by omega) (by omega) (by omega) (by omega) (by omega) (by omega)
      have y2 : f' (38 + 2 * j) = f (38 + 2 * j) := k _ (by unfold NS; omega) (by omega) (by omega) (by omega) (by omega) (by omega) (by omega)
      exact ⟨so', z', by rw [y1]; exact c1, d1.trans c2, by rw [y1]; exact c3, d2.trans c4, c5, fun q hq => by rw [y2, d3 q (by omega)]; exact c6 q hq⟩
  · rw [e0, k76 11 (by omega)]
    rcases h7 with h7 | ⟨h7, h8, ni, si, g1, g2, g3, g4, g5, g6, g7, g8, g9, g10⟩
    · exact Or.inl h7
    · refine Or.inr ⟨h7, h8, ni, si, g1, g2.of2 (fun q hq => k _ (by unfold NS; omega) (by omega) (by omega) (by omega) (by omega) (by omega) (by omega)) (fun b x1 x2 x3 => k b x3 (by omega) (by omega) (by omega) (by omega) (by omega) (by omega)), g3, g4, g5, g6, by rw [e84]; exact g7, by rw [e84]; exact g8, by rw [e84]; exact g9, by rw [e83]; exact g10⟩
theorem x6_become {f : Nat → Nat → Int32} {r : Nat → Nat → Option Nat} (hG : GG (f, r)) {i : Nat} (hi : i < 4) (so : Int32) {z : Nat} (hz : z ≤ 40) : ∃ f', f_X6_become SS (37 + 2 * i) so (nI z) (f, r) = some (f', r) ∧ (∀ b, b ≠ 37 + 2 * i → b ≠ 38 + 2 * i → f' b = f b) ∧ f' (37 + 2 * i) 1 = so ∧ f' (37 + 2 * i) 2 = nI z ∧ ∀ k, k < z → f' (38 + 2 * i) k = 0 := by
  have k40 : (40 : Int32) = nI 40 := by decide +kernel
  have e1 : i_max 0 (i_min 40 (nI z)) = nI z := by
    have : i_min 40 (nI z) = nI z := by
      unfold i_min
      by_cases y : z < 40
      · rw [if_pos (by rw [k40]; exact nI_lt y (by omega))]
      · rw [if_neg (by rw [k40]; exact nI_nlt (by omega) (by omega)), k40]
        congr 1
        omega
    rw [this, i_max_n (by omega)]
  unfold f_X6_become
  rw [if_pos (obSh i hi), sI_ok (obSh i hi), Option.bind_some, sI_ok (obSh i hi), Option.bind_some, e1]
  obtain ⟨F, hF⟩ : ∃ q, q = e_up (e_up f (37 + 2 * i) 1 so) (37 + 2 * i) 2 (nI z) := ⟨_, rfl⟩
  have key := loopR (L := fun m k (a : Nat → Nat → Int32) => L_X6_become_21 m SS (37 + 2 * i) k (a, r)) (n := z)
    (I := fun j a => (∀ b, b ≠ 38 + 2 * i → a b = F b) ∧ ∀ k, k < j → a (38 + 2 * i) k = 0)
    (P := fun q => ∃ f', q = (f', r) ∧ (∀ b, b ≠ 38 + 2 * i → f' b = F b) ∧ ∀ k, k < z → f' (38 + 2 * i) k = 0)
    (fun m a hI => by
      refine ⟨(a, r), ?_, a, rfl, hI⟩
      show L_X6_become_21 (m + 1) SS (37 + 2 * i) (nI z) (a, r) = _
      have e2 : a (37 + 2 * i) 2 = nI z := by rw [hI.1 _ (by omega), hF, e_up_eq]
      rw [L_X6_become_21, gI_ok (obSh i hi), Option.bind_some, show (a, r).1 (37 + 2 * i) 2 = nI z from e2, if_pos (nI_le (Nat.le_refl z) (by omega))])
    (fun m j a hj hI => by
      refine ⟨e_up a (38 + 2 * i) j 0, ?_, fun b hb => by rw [e_up_row hb]; exact hI.1 b hb, fun k hk => ?_⟩
      · show L_X6_become_21 (m + 1) SS (37 + 2 * i) (nI j) (a, r) = _
        have e2 : a (37 + 2 * i) 2 = nI z := by rw [hI.1 _ (by omega), hF, e_up_eq]
        rw [L_X6_become_21, gI_ok (obSh i hi), Option.bind_some, show (a, r).1 (37 + 2 * i) 2 = nI z from e2, if_neg (nI_ge hj (by omega)), rfSh (show GG (a, r) from hG) i hi, Option.bind_some, aS_ok (arSh i hi) (by omega) (by omega), Option.bind_some, nI_1]
      · rw [e_up_at]
        by_cases y : k = j
        · rw [if_pos y]
        · rw [if_neg y]
          exact hI.2 k (by omega))
    z 0 50000 F (by omega) (by omega) ⟨fun _ _ => rfl, fun k hk => by omega⟩
  rw [nI_0] at key
  obtain ⟨q, k1, f', k2, k3, k4⟩ := key
  refine ⟨f', ?_, fun b h1 h2 => by rw [k3 b h2, hF, e_up_row h1, e_up_row h1], by rw [k3 _ (by omega), hF, e_up_ne (Or.inr (by omega)), e_up_eq], by rw [k3 _ (by omega), hF, e_up_eq], k4⟩
  show L_X6_become_21 50000 SS (37 + 2 * i) 0 (e_up (e_up f (37 + 2 * i) 1 so) (37 + 2 * i) 2 (nI z), r) = _
  rw [← hF]
  exact k1.trans (by rw [k2])
def c_nar (so v : Int32) : Int32 := if so = 0 then v.toInt8.toInt32 else if so = 1 then v.toInt16.toInt32 else v
theorem x6_has {f : Nat → Nat → Int32} {r : Nat → Nat → Option Nat} {i : Nat} (hi : i < 4) {z : Nat} (hz : f (37 + 2 * i) 2 = nI z) (x : Int32) : f_X6_has SS (37 + 2 * i) x (f, r) = some (s_has z x, (f, r)) := by
  unfold f_X6_has s_has
  rw [if_pos (obSh i hi)]
  simp only [gI_ok (obSh i hi), Option.bind_some, hz]
  split
  · rfl
  · split <;> rfl
theorem s_has_or2 {n : Nat} (h6 : n ≤ 40) (p : Int32) : s_has n p = 0 ∨ ∃ k, k < n ∧ p = nI k ∧ s_has n p = 1 := by
  unfold s_has
  by_cases a : p < 0
  · exact Or.inl (if_pos a)
  · by_cases b : nI n ≤ p
    · exact Or.inl (by rw [if_neg a, if_pos b])
    · obtain ⟨t, ht, e⟩ := nI_ex (x := p) (n := n) (by omega) a (by rcases Int32.lt_or_le p (nI n) with z | z; exact z; exact absurd z b)
      exact Or.inr ⟨t, ht, e, by rw [if_neg a, if_neg b]⟩
theorem s_in_has2 {n : Nat} (h6 : n ≤ 40) (p : Int32) : s_in p 0 (nI n - 1) = s_has n p := by
  unfold s_in s_has
  by_cases a : p < 0
  · rw [if_pos a, if_pos a]
  · rw [if_neg a, if_neg a]
    have key : ∀ n, n ≤ 40 → (nI n - 1).toInt = (n : Int) - 1 := by decide +kernel
    have e1 := key n h6
    have e2 : (nI n).toInt = n := nI_toInt (by omega)
    by_cases b : nI n ≤ p
    · have b' := Int32.le_iff_toInt_le.mp b
      rw [if_pos b, if_pos (Int32.lt_iff_toInt_lt.mpr (by omega))]
    · have b' : ¬ (nI n).toInt ≤ p.toInt := fun z => b (Int32.le_iff_toInt_le.mpr z)
      rw [if_neg b, if_neg (fun z => by have := Int32.lt_iff_toInt_lt.mp z; omega)]
theorem x6_set {f : Nat → Nat → Int32} {r : Nat → Nat → Option Nat} (hG : GG (f, r)) {i : Nat} (hi : i < 4) {so : Int32} {z : Nat} (hs : f (37 + 2 * i) 1 = so) (hz : f (37 + 2 * i) 2 = nI z) (h40 : z ≤ 40) {k : Nat} (hk : k < z) (v : Int32) : f_X6_set SS (37 + 2 * i) (nI k) v (f, r) = some (e_up f (38 + 2 * i) k (c_nar so v), r) := by
  have e : s_has z (nI k) = 1 := by
    unfold s_has
    rw [if_neg (nI_pos (by omega)), if_neg (nI_ge hk (by omega))]
  unfold f_X6_set J_X6_set_40 c_nar
  rw [if_pos (obSh i hi), x6_has hi hz, Option.bind_some, e, if_neg (show ¬ (1 : Int32) = 0 by decide)]
  simp only [rfSh hG i hi, Option.bind_some, gI_ok (obSh i hi), hs, aS_ok (arSh i hi) (show k < 40 by omega) (by omega : 40 < 2 ^ 31)]
  by_cases y0 : so = 0
  · rw [if_pos y0, if_pos y0]
  · rw [if_neg y0, if_neg y0]
    by_cases y1 : so = 1
    · rw [if_pos y1, if_pos y1]
    · rw [if_neg y1, if_neg y1]
/-- the reference's cells of a sheet are all 0 -/
theorem m_zero {f : Nat → Nat → Int32} {r : Nat → Nat → Option Nat} (hG : GG (f, r)) {i : Nat} (hi : i < 4) : ∃ f', L_X11_sheet_70 50000 SS 76 (nI i) 0 (f, r) = some (1, (f', r)) ∧ (∀ b, b ≠ 87 → f' b = f b) ∧ (∀ k, k < 40 → f' 87 (40 * i + k) = 0) ∧ ∀ q, (q < 40 * i ∨ 40 * i + 40 ≤ q) → f' 87 q = f 87 q := by
  have r87 : ∀ f, e_gR SS (f, r) 11 76 16 = some 87 := fun f => (rf11 (g := (f, r)) hG).2.2.2.2.2.2.2.2.2.2.1
  have A87 : ArA 0 87 160 := by unfold ArA; decide +kernel
  have k40 : (40 : Int32) = nI 40 := by decide +kernel
  have key := loopR (L := fun m k (a : Nat → Nat → Int32) => L_X11_sheet_70 m SS 76 (nI i) k (a, r)) (n := 40)
    (I := fun j a => (∀ b, b ≠ 87 → a b = f b) ∧ (∀ k, k < j → a 87 (40 * i + k) = 0) ∧ ∀ q, (q < 40 * i ∨ 40 * i + 40 ≤ q) → a 87 q = f 87 q)
    (P := fun q => ∃ f', q = (1, (f', r)) ∧ (∀ b, b ≠ 87 → f' b = f b) ∧ (∀ k, k < 40 → f' 87 (40 * i + k) = 0) ∧ ∀ q, (q < 40 * i ∨ 40 * i + 40 ≤ q) → f' 87 q = f 87 q)
    (fun m a hI => by
      refine ⟨(1, (a, r)), ?_, a, rfl, hI⟩
      show L_X11_sheet_70 (m + 1) SS 76 (nI i) (nI 40) (a, r) = _
      rw [L_X11_sheet_70, if_pos (by rw [k40]; exact nI_le (Nat.le_refl 40) (by omega))])
    (fun m j a hj hI => by
      refine ⟨e_up a 87 (40 * i + j) 0, ?_, fun b hb => by rw [e_up_row hb]; exact hI.1 b hb, fun k hk => ?_, fun q hq => by rw [e_up_ne (Or.inr (by omega))]; exact hI.2.2 q hq⟩
      · show L_X11_sheet_70 (m + 1) SS 76 (nI i) (nI j) (a, r) = _
        rw [L_X11_sheet_70, if_neg (by rw [k40]; exact nI_ge hj (by omega)), r87, Option.bind_some, nI_40j, aS_ok A87 (by omega) (by omega), Option.bind_some, nI_1]
      · rw [e_up_at]
        by_cases y : k = j
        · rw [if_pos (by omega)]
        · rw [if_neg (by omega)]
          exact hI.2.1 k (by omega))
    40 0 50000 f (by omega) (by omega) ⟨fun _ _ => rfl, fun k hk => by omega, fun _ _ => rfl⟩
  rw [nI_0] at key
  obtain ⟨q, k1, f', k2, k3⟩ := key
  exact ⟨f', k1.trans (by rw [k2]), k3⟩
theorem m_sheet {f : Nat → Nat → Int32} {r : Nat → Nat → Option Nat} (hG : GG (f, r)) {i : Nat} (hi : i < 4) (so : Int32) {z : Nat} (x : Int32) (hx : (if so = -1 then 0 else x) = nI z) : ∃ f', J_X11_sheet_44 SS 76 (nI i) so x (f, r) = some (1, (f', r)) ∧ (∀ b, b ≠ 85 → b ≠ 86 → b ≠ 87 → f' b = f b) ∧ f' 85 i = so ∧ f' 86 i = nI z ∧ (∀ j, j ≠ i → f' 85 j = f 85 j ∧ f' 86 j = f 86 j) ∧ (∀ k, k < 40 → f' 87 (40 * i + k) = 0) ∧ ∀ q, (q < 40 * i ∨ 40 * i + 40 ≤ q) → f' 87 q = f 87 q := by
  have r85 : ∀ f, e_gR SS (f, r) 11 76 14 = some 85 := fun f => (rf11 (g := (f, r)) hG).2.2.2.2.2.2.2.2.1
  have r86 : ∀ f, e_gR SS (f, r) 11 76 15 = some 86 := fun f => (rf11 (g := (f, r)) hG).2.2.2.2.2.2.2.2.2.1
  have A85 : ArA 0 85 4 := by unfold ArA; decide +kernel
  have A86 : ArA 0 86 4 := by unfold ArA; decide +kernel
  obtain ⟨F, hF⟩ : ∃ q, q = e_up (e_up f 85 i so) 86 i (nI z) := ⟨_, rfl⟩
  obtain ⟨f', c1, c2, c3, c4⟩ := m_zero (f := F) (r := r) hG hi
  refine ⟨f', ?_, fun b h1 h2 h3 => by rw [c2 b h3, hF, e_up_row h2, e_up_row h1], by rw [c2 85 (by omega), hF, e_up_row (by omega), e_up_eq], by rw [c2 86 (by omega), hF, e_up_eq], fun j hj => ⟨by rw [c2 85 (by omega), hF, e_up_row (by omega), e_up_ne (Or.inr hj)], by rw [c2 86 (by omega), hF, e_up_ne (Or.inr hj), e_up_row (by omega)]⟩, c3, fun q hq => by rw [c4 q hq, hF, e_up_row (by omega), e_up_row (by omega)]⟩
  unfold J_X11_sheet_44 J_X11_sheet_66
  rw [r85, Option.bind_some, aS_ok A85 hi (by omega), Option.bind_some, r86, Option.bind_some]
  by_cases y : so = -1
  · rw [if_pos y] at hx ⊢
    rw [aS_ok A86 hi (by omega), Option.bind_some]
    have e0 : e_up (e_up f 85 i so) 86 i 0 = F := by rw [hF, ← hx]
    show L_X11_sheet_70 50000 SS 76 (nI i) 0 (e_up (e_up f 85 i so) 86 i 0, r) = _
    rw [e0]
    exact c1
  · rw [if_neg y] at hx ⊢
    rw [aS_ok A86 hi (by omega), Option.bind_some]
    show L_X11_sheet_70 50000 SS 76 (nI i) 0 (e_up (e_up f 85 i so) 86 i x, r) = _
    rw [hx, ← hF]
    exact c1
/-- a sheet becomes another, in both -/
theorem sheet_both {f : Nat → Nat → Int32} {r : Nat → Nat → Option Nat} {n tc tz : Nat} {tk : Nat → Nat → List (Nat × Int32)} {s : Nat → Nat → Int32} (h : IN f r n tc tz tk s) {i : Nat} (hi : i < 4) (so : Int32) {z : Nat} (hz : z ≤ 40) (x : Int32) (hx : (if so = -1 then 0 else x) = nI z) : ∃ f1 f2, f_X6_become SS (37 + 2 * i) so (nI z) (f, r) = some (f1, r) ∧ J_X11_sheet_44 SS 76 (nI i) so x (f1, r) = some (1, (f2, r)) ∧ IN f2 r n tc tz tk s := by
  have hG : GG (f, r) := h.1.cs.1
  obtain ⟨f1, a1, a2, a3, a4, a5⟩ := x6_become hG hi so hz
  obtain ⟨f2, b1, b2, b3, b4, b5, b6, b7⟩ := m_sheet (f := f1) (r := r) hG hi so x hx
  have all : ∀ b, b ≠ 37 + 2 * i → b ≠ 38 + 2 * i → b ≠ 85 → b ≠ 86 → b ≠ 87 → f2 b = f b := fun b h1 h2 h3 h4 h5 => by rw [b2 b h3 h4 h5, a2 b h1 h2]
  refine ⟨f1, f2, a1, b1, h.1.of2 (fun j hj => all _ (by omega) (by omega) (by omega) (by omega) (by omega)) (fun b x1 x2 _ => all b (by omega) (by omega) (by omega) (by omega) (by omega)), ?_, ?_⟩
  · have e : ∀ b, 76 ≤ b → b ≠ 85 → b ≠ 86 → b ≠ 87 → f2 b = f b := fun b hb h3 h4 h5 => all b (by omega) (by omega) h3 h4 h5
    exact h.2.1.of (by rw [e 76 (by omega) (by omega) (by omega) (by omega)]) (by rw [e 76 (by omega) (by omega) (by omega) (by omega)]) (by rw [e 76 (by omega) (by omega) (by omega) (by omega)]) (e 77 (by omega) (by omega) (by omega) (by omega)) (e 78 (by omega) (by omega) (by omega) (by omega)) (fun j _ => by rw [e 79 (by omega) (by omega) (by omega) (by omega)]) (e 81 (by omega) (by omega) (by omega) (by omega)) (e 82 (by omega) (by omega) (by omega) (by omega))
  · have e85 : f1 85 = f 85 := a2 85 (by omega) (by omega)
    have e86 : f1 86 = f 86 := a2 86 (by omega) (by omega)
    have e87 : f1 87 = f 87 := a2 87 (by omega) (by omega)
    refine h.2.2.sh (fun b _ _ h1 h2 h3 h4 h5 => all b h1 h2 h3 h4 h5) (fun j _ => by rw [all 76 (by omega) (by omega) (by omega) (by omega) (by omega)]) hi (so := so) (z := z) ⟨?_, b3, ?_, b4, hz, fun k hk => ?_⟩ (fun j hj hne => ⟨by rw [(b5 j hne).1, e85], by rw [(b5 j hne).2, e86], fun k hk => by rw [b7 _ (by omega), e87]⟩)
    · rw [b2 _ (by omega) (by omega) (by omega)]; exact a3
    · rw [b2 _ (by omega) (by omega) (by omega)]; exact a4
    · rw [b2 _ (by omega) (by omega) (by omega), a5 k hk, b6 k (by omega)]
theorem ok_sheet : OK_sheet SS Inv_ := by
  intro g a1 a2 a3 hI
  obtain ⟨f, r⟩ := g
  obtain ⟨n, tc, tz, tk, s, h⟩ := hI
  have h : IN f r n tc tz tk s := h
  have hG : GG (f, r) := h.1.cs.1
  have h10 := rf10 hG
  have no : ¬ (1 : Int32) = 0 := by decide
  rcases arg3 a1 3 4 3 (by decide +kernel) (by decide +kernel) (by omega) with ⟨q1, q2⟩ | ⟨q1, q2, q3, q4, q5, q6⟩ | ⟨i, hi, rfl, q1, q2, q3, q4, q5, q6⟩
  · exact ask0 h (-2) (by unfold f_X10_sheet; rw [if_pos ob10, x10_sh, if_pos q1, Option.bind_some, if_pos rfl]) (by unfold f_X11_sheet; rw [if_pos ob11, m_in, Option.bind_some, q2, if_pos rfl])
  · exact ask0 h (-2) (by unfold f_X10_sheet; rw [if_pos ob10, x10_sh, if_neg q1, if_pos q3, Option.bind_some, if_pos rfl]) (by unfold f_X11_sheet; rw [if_pos ob11, m_in, Option.bind_some, q6, if_pos rfl])
  · have x1 : f_X10_sheet SS 0 (nI i) a2 a3 (f, r) = if a2 < -1 then some (-2, (f, r)) else if a2 ≤ 2 then (if a2 = -1 then (f_X6_become SS (37 + 2 * i) (-1) 0 (f, r)).bind fun q14 => some (1, q14) else if a3 ≤ 40 then (if 0 ≤ a3 then (f_X6_become SS (37 + 2 * i) a2 a3 (f, r)).bind fun q8 => some (1, q8) else some (-14, (f, r))) else some (-2, (f, r))) else some (-2, (f, r)) := by
      unfold f_X10_sheet
      rw [if_pos ob10, x10_sh, if_neg q1, if_neg q3, Option.bind_some, if_neg no]
      simp only [h10, Option.bind_some, rfShs hG (show i < 4 by omega)]
    have x2 : ∀ f1 : Nat → Nat → Int32, f_X11_sheet SS 76 (nI i) a2 a3 (f1, r) = if s_in a2 (-1) 2 = 0 then some (-2, (f1, r)) else if a2 = -1 then J_X11_sheet_32 SS 76 (nI i) a2 a3 (f1, r) else if a3 ≤ 40 then J_X11_sheet_32 SS 76 (nI i) a2 a3 (f1, r) else some (-2, (f1, r)) := by
      intro f1
      unfold f_X11_sheet
      rw [if_pos ob11, m_in, Option.bind_some, q6, if_neg no, m_in, Option.bind_some]
    by_cases u : a2 < -1
    · have e : s_in a2 (-1) 2 = 0 := by unfold s_in; rw [if_pos u]
      exact ask0 h (-2) (by rw [x1, if_pos u]) (by rw [x2, e, if_pos rfl])
    · by_cases v : a2 ≤ 2
      · have e : s_in a2 (-1) 2 = 1 := by
          unfold s_in
          rw [if_neg u, if_neg (fun z => by have := Int32.lt_iff_toInt_lt.mp z; have := Int32.le_iff_toInt_le.mp v; omega)]
        by_cases w : a2 = -1
        · subst w
          obtain ⟨f1, f2, b1, b2, b3⟩ := sheet_both h (show i < 4 by omega) (-1) (z := 0) (by omega) a3 (by rw [if_pos rfl, nI_0])
          rw [nI_0] at b1
          refine do_ 1 (f1 := f1) (f2 := f2) ?_ ?_ b3
          · rw [x1, if_neg u, if_pos v, if_pos rfl, b1]
            rfl
          · rw [x2, e, if_neg no, if_pos rfl]
            unfold J_X11_sheet_32
            rw [if_pos rfl]
            exact b2
        · rcases arg3 a3 40 41 40 (by decide +kernel) (by decide +kernel) (by omega) with ⟨p1, p2⟩ | ⟨p1, p2, p3, p4, p5, p6⟩ | ⟨z, hz, rfl, p1, p2, p3, p4, p5, p6⟩
          · have l40 : a3 ≤ 40 := Int32.le_iff_toInt_le.mpr (by
              have := Int32.lt_iff_toInt_lt.mp p1
              have k0 : (0 : Int32).toInt = 0 := by decide +kernel
              have k40 : (40 : Int32).toInt = 40 := by decide +kernel
              omega)
            have ng : ¬ (0 : Int32) ≤ a3 := fun y => by
              have := Int32.lt_iff_toInt_lt.mp p1
              have := Int32.le_iff_toInt_le.mp y
              omega
            refine ask0 h (-14) ?_ ?_
            · rw [x1, if_neg u, if_pos v, if_neg w, if_pos l40, if_neg ng]
            · rw [x2, e, if_neg no, if_neg w, if_pos l40]
              unfold J_X11_sheet_32
              rw [if_neg w, if_neg ng]
          · exact ask0 h (-2) (by rw [x1, if_neg u, if_pos v, if_neg w, if_neg p4]) (by rw [x2, e, if_neg no, if_neg w, if_neg p4])
          · obtain ⟨f1, f2, b1, b2, b3⟩ := sheet_both h (show i < 4 by omega) a2 (z := z) (by omega) (nI z) (by rw [if_neg w])
            refine do_ 1 (f1 := f1) (f2 := f2) ?_ ?_ b3
            · rw [x1, if_neg u, if_pos v, if_neg w, if_pos p4, if_pos (nI_pos' (by omega)), b1]
              rfl
            · rw [x2, e, if_neg no, if_neg w, if_pos p4]
              unfold J_X11_sheet_32
              rw [if_neg w, if_pos (nI_pos' (by omega))]
              exact b2
      · have e : s_in a2 (-1) 2 = 0 := by
          unfold s_in
          rw [if_neg u]
          by_cases y : (2 : Int32) < a2
          · rw [if_pos y]
          · exact absurd (Int32.le_iff_toInt_le.mpr (by
              have : ¬ (2 : Int32).toInt < a2.toInt := fun z => y (Int32.lt_iff_toInt_lt.mpr z)
              omega)) v
        exact ask0 h (-2) (by rw [x1, if_neg u, if_neg v]) (by rw [x2, e, if_pos rfl])
theorem ok_cell : OK_cell SS Inv_ := by
  intro g a1 a2 a3 hI
  obtain ⟨f, r⟩ := g
  obtain ⟨n, tc, tz, tk, s, h⟩ := hI
  have h : IN f r n tc tz tk s := h
  have hG : GG (f, r) := h.1.cs.1
  have h10 := rf10 hG
  have no : ¬ (1 : Int32) = 0 := by decide
  rcases arg3 a1 3 4 3 (by decide +kernel) (by decide +kernel) (by omega) with ⟨q1, q2⟩ | ⟨q1, q2, q3, q4, q5, q6⟩ | ⟨i, hi, rfl, q1, q2, q3, q4, q5, q6⟩
  · exact ask0 h (-2) (by unfold f_X10_cell; rw [if_pos ob10, x10_sh, if_pos q1, Option.bind_some, if_pos rfl]) (by unfold f_X11_cell; rw [if_pos ob11, m_in, Option.bind_some, q2, if_pos rfl])
  · exact ask0 h (-2) (by unfold f_X10_cell; rw [if_pos ob10, x10_sh, if_neg q1, if_pos q3, Option.bind_some, if_pos rfl]) (by unfold f_X11_cell; rw [if_pos ob11, m_in, Option.bind_some, q6, if_pos rfl])
  · have hi4 : i < 4 := by omega
    obtain ⟨so, z, hs⟩ := h.2.2.2.2.2.2.2.1 i hi4
    obtain ⟨c1, c2, c3, c4, c5, c6⟩ := id hs
    have A85 : ArA 0 85 4 := by unfold ArA; decide +kernel
    have A86 : ArA 0 86 4 := by unfold ArA; decide +kernel
    have A87 : ArA 0 87 160 := by unfold ArA; decide +kernel
    have x1 : f_X10_cell SS 0 (nI i) a2 a3 (f, r) = if so = -1 then some (-11, (f, r)) else if s_has z a2 = 0 then some (-12, (f, r)) else (f_X6_set SS (37 + 2 * i) a2 a3 (f, r)).bind fun q20 => some (1, q20) := by
      unfold f_X10_cell f_X6_isMissing
      rw [if_pos ob10, x10_sh, if_neg q1, if_neg q3, Option.bind_some, if_neg no]
      simp only [h10, Option.bind_some, rfShs hG hi4, if_pos (obSh i hi4), gI_ok (obSh i hi4), c1]
      by_cases y : so = -1
      · rw [if_pos y, if_pos y]
        rfl
      · rw [if_neg y, if_neg y, Option.bind_some, if_pos rfl]
        simp only [h10, Option.bind_some, rfShs hG hi4, x6_has hi4 c3]
    have x2 : ∀ f1 : Nat → Nat → Int32, f1 85 = f 85 → f1 86 = f 86 → f_X11_cell SS 76 (nI i) a2 a3 (f1, r) = if so = -1 then some (-11, (f1, r)) else if s_has z a2 = 0 then some (-12, (f1, r)) else (e_aS SS (f1, r) 0 87 ((40 : Int32) * nI i + a2) (c_nar so a3)).bind fun g1 => some (1, g1) := by
      intro f1 e85 e86
      have h11 := rf11 (show GG (f1, r) from hG)
      unfold f_X11_cell J_X11_cell_84 c_nar
      rw [if_pos ob11, m_in, Option.bind_some, q6, if_neg no]
      simp only [h11, Option.bind_some, aI_ok A85 hi4 (by omega : 4 < 2 ^ 31), aI_ok A86 hi4 (by omega : 4 < 2 ^ 31), e85, e86, c2, c4, m_in, s_in_has2 c5]
      by_cases y : so = -1
      · rw [if_pos y, if_pos y]
      · rw [if_neg y, if_neg y]
        by_cases w : s_has z a2 = 0
        · rw [if_pos w, if_pos w]
        · rw [if_neg w, if_neg w]
          by_cases y0 : so = 0
          · rw [if_pos y0, if_pos y0]
          · rw [if_neg y0, if_neg y0]
            by_cases y1 : so = 1
            · rw [if_pos y1, if_pos y1]
            · rw [if_neg y1, if_neg y1]
    by_cases y : so = -1
    · exact ask0 h (-11) (by rw [x1, if_pos y]) (by rw [x2 f rfl rfl, if_pos y])
    · rcases s_has_or2 c5 a2 with w | ⟨k, hk, rfl, w⟩
      · exact ask0 h (-12) (by rw [x1, if_neg y, if_pos w]) (by rw [x2 f rfl rfl, if_neg y, if_pos w])
      · have lo : ∀ b, b ≠ 38 + 2 * i → b ≠ 87 → e_up (e_up f (38 + 2 * i) k (c_nar so a3)) 87 (40 * i + k) (c_nar so a3) b = f b := fun b h1 h2 => by rw [e_up_row h2, e_up_row h1]
        refine do_ 1 (f1 := e_up f (38 + 2 * i) k (c_nar so a3)) (f2 := e_up (e_up f (38 + 2 * i) k (c_nar so a3)) 87 (40 * i + k) (c_nar so a3)) (n := n) (tc := tc) (tz := tz) (tk := tk) (s := s) ?_ ?_ ⟨?_, ?_, ?_⟩
        · rw [x1, if_neg y, w, if_neg no, x6_set hG hi4 c1 c3 c5 hk]
          rfl
        · rw [x2 _ (e_up_row (by omega)) (e_up_row (by omega)), if_neg y, w, if_neg no, nI_40j, aS_ok A87 (by omega) (by omega)]
          rfl
        · exact h.1.of2 (fun j hj => lo _ (by omega) (by omega)) (fun b b1 b2 _ => lo b (by omega) (by omega))
        · exact h.2.1.of (by rw [lo 76 (by omega) (by omega)]) (by rw [lo 76 (by omega) (by omega)]) (by rw [lo 76 (by omega) (by omega)]) (lo 77 (by omega) (by omega)) (lo 78 (by omega) (by omega)) (fun j _ => by rw [lo 79 (by omega) (by omega)]) (lo 81 (by omega) (by omega)) (lo 82 (by omega) (by omega))
        · refine h.2.2.sh (fun b _ _ h1 h2 h3 h4 h5 => lo b h2 h5) (fun j _ => by rw [lo 76 (by omega) (by omega)]) hi4 (so := so) (z := z) ⟨?_, ?_, ?_, ?_, c5, fun j hj => ?_⟩ (fun j hj hne => ⟨by rw [lo 85 (by omega) (by omega)], by rw [lo 86 (by omega) (by omega)], fun q hq => by rw [e_up_ne (Or.inr (by omega)), e_up_row (by omega)]⟩)
          · rw [lo _ (by omega) (by omega)]; exact c1
          · rw [lo _ (by omega) (by omega)]; exact c2
          · rw [lo _ (by omega) (by omega)]; exact c3
          · rw [lo _ (by omega) (by omega)]; exact c4
          · rw [e_up_row (show 38 + 2 * i ≠ 87 by omega), e_up_at, e_up_at, e_up_row (show (87 : Nat) ≠ 38 + 2 * i by omega)]
            by_cases q : j = k
            · rw [if_pos q, if_pos (by omega)]
            · rw [if_neg q, if_neg (by omega)]
              exact c6 j hj
