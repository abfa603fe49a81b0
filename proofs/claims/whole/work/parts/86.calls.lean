/-! lowest terms; strain, drawn, odds -/
def c_eu : Nat → Nat → Nat → Option Nat
  | 0, _, _ => none
  | k + 1, a, b => if b = 0 then some a else c_eu k b (a % b)
theorem c_eu_end : ∀ m a b, b < 2 ^ m → ∃ g, c_eu (2 * m + 1) a b = some g ∧ (0 < b → 0 < g) := by
  intro m
  induction m with
  | zero =>
    intro a b hb
    have : b = 0 := by omega
    subst this
    exact ⟨a, rfl, fun h => by omega⟩
  | succ m ih =>
    intro a b hb
    by_cases b0 : b = 0
    · subst b0
      exact ⟨a, by rw [c_eu]; rfl, fun h => by omega⟩
    · have hr := Nat.mod_lt a (show 0 < b by omega)
      generalize hq : a % b = q at hr
      rw [show 2 * (m + 1) + 1 = (2 * m + 1) + 1 + 1 by omega, c_eu, if_neg b0, hq]
      by_cases q0 : q = 0
      · subst q0
        rw [c_eu, if_pos rfl]
        exact ⟨b, rfl, fun h => h⟩
      · rw [c_eu, if_neg q0]
        have hlt : b % q < 2 ^ m := by
          have h1 := Nat.mod_lt b (show 0 < q by omega)
          rw [Nat.pow_succ] at hb
          by_cases z : 2 * q ≤ b
          · omega
          · have : b % q = b - q := by
              rw [Nat.mod_eq_sub_mod (by omega), Nat.mod_eq_of_lt (by omega)]
            omega
        obtain ⟨g, g1, g2⟩ := ih q (b % q) hlt
        by_cases r0 : b % q = 0
        · rw [r0] at g1 ⊢
          refine ⟨q, ?_, fun _ => by omega⟩
          rw [c_eu, if_pos rfl]
        · exact ⟨g, g1, fun _ => g2 (by omega)⟩
theorem lN_div {a b : Nat} (ha : a < 2 ^ 63) (hb : b < 2 ^ 63) : lN a / lN b = lN (a / b) := (Int64.ofNat_div ha hb).symm
theorem lN_0 {b : Nat} (hb : b < 2 ^ 31) : lN b = (0 : Int64) ↔ b = 0 := by
  have k : (0 : Int64) = lN 0 := by decide +kernel
  rw [k]
  exact lN_eq hb (by omega)
theorem lg_cmp0 {b : Nat} (hb : b < 2 ^ 31) : lg_cmp (lN b) (0 : Int64) = 0 ↔ b = 0 := by
  have k : (0 : Int64) = lN 0 := by decide +kernel
  unfold lg_cmp
  rw [k]
  by_cases z : b = 0
  · subst z
    decide +kernel
  · have h1 : ¬ lN b < lN 0 := fun y => by have := (lN_lt hb (by omega)).mp y; omega
    have h2 : ¬ lN b = lN 0 := fun y => z ((lN_eq hb (by omega)).mp y)
    have h3 : lN b > lN 0 := (lN_lt (by omega) hb).mpr (by omega)
    rw [if_pos h3]
    exact ⟨fun y => absurd y (by decide), fun y => absurd y z⟩
theorem x10_low {a b : Nat} (ha : a < 2 ^ 31) (hb : b < 2 ^ 31) (part : Int32) (g : e_G) : ∀ k x y i m d, c_eu k x y = some d → x < 2 ^ 31 → y < 2 ^ 31 → i + k ≤ 100 → k < m → L_X10_lowest_8 m SS (nI a) (nI b) part (nI x) (nI y) (nI i) g = J_X10_lowest_39 SS (nI a) (nI b) part (nI d) g := by
  intro k
  induction k with
  | zero => intro x y i m d h; cases h
  | succ k ih =>
    intro x y i m d h hx hy hi hm
    obtain ⟨m, rfl⟩ : ∃ q, m = q + 1 := ⟨m - 1, by omega⟩
    have k100 : (100 : Int32) = nI 100 := by decide +kernel
    rw [L_X10_lowest_8, k100, if_neg (nI_ge (by omega) (by omega))]
    rw [c_eu] at h
    by_cases y0 : y = 0
    · rw [if_pos y0] at h
      cases h
      rw [y0, if_pos nI_0]
    · rw [if_neg y0] at h
      rw [if_neg (nI_ne0 (by omega) hy), if_neg (nI_ne0 (by omega) hy), nI_rem hx hy, nI_1]
      exact ih y (x % y) (i + 1) m d h hy (by have := Nat.mod_lt x (show 0 < y by omega); omega) (by omega) (by omega)
theorem x11_low {a b : Nat} (part : Int32) (g : e_G) : ∀ k x y m d, c_eu k x y = some d → x < 2 ^ 31 → y < 2 ^ 31 → 0 < d → d < 2 ^ 31 → a < 2 ^ 31 → b < 2 ^ 31 → k < m → L_X11_lowest_16 m SS (lN a) (lN b) part (lN x) (lN y) g = if part = 0 then some (lN (a / d), g) else some (lN (b / d), g) := by
  intro k
  induction k with
  | zero => intro x y m d h; cases h
  | succ k ih =>
    intro x y m d h hx hy hd hd2 ha hb hm
    obtain ⟨m, rfl⟩ : ∃ q, m = q + 1 := ⟨m - 1, by omega⟩
    rw [L_X11_lowest_16]
    rw [c_eu] at h
    by_cases y0 : y = 0
    · rw [if_pos y0] at h
      cases h
      rw [if_pos ((lg_cmp0 hy).mpr y0)]
      have x0 : ¬ lN x = (0 : Int64) := fun z => by have := (lN_0 hx).mp z; omega
      rw [if_neg x0, if_neg x0, lN_div (by omega) (by omega), lN_div (by omega) (by omega)]
    · rw [if_neg y0] at h
      rw [if_neg (fun z => y0 ((lg_cmp0 hy).mp z)), if_neg (fun z => y0 ((lN_0 hy).mp z)), lN_rem (by omega) (by omega)]
      exact ih y (x % y) m d h hy (by have := Nat.mod_lt x (show 0 < y by omega); omega) hd hd2 ha hb (by omega)
theorem c_eu_le : ∀ k x y d, c_eu k x y = some d → d ≤ max x y := by
  intro k
  induction k with
  | zero => intro x y d h; cases h
  | succ k ih =>
    intro x y d h
    rw [c_eu] at h
    by_cases y0 : y = 0
    · rw [if_pos y0] at h
      cases h
      omega
    · rw [if_neg y0] at h
      have := ih y (x % y) d h
      have h2 := Nat.mod_lt x (show 0 < y by omega)
      omega
def w_low (a b : Nat) (part : Int32) : Int64 := if part = 0 then lN (a / (c_eu 21 a b).getD 1) else lN (b / (c_eu 21 a b).getD 1)
/-- both bring to lowest terms alike -/
theorem low_both {a b : Nat} (ha : a < 1000) (hb : b < 1000) (hb0 : 0 < b) {part : Int32} (hp : part = 0 ∨ part = 1) : (∀ g, f_X10_lowest SS (nI a) (nI b) part g = some (w_low a b part, g)) ∧ ∀ g, f_X11_lowest SS (lN a) (lN b) part g = some (w_low a b part, g) := by
  obtain ⟨d, d1, d2⟩ := c_eu_end 10 a b (by omega)
  have d3 := d2 hb0
  have d4 := c_eu_le _ _ _ _ d1
  have d5 : d < 1000 := by omega
  have eA : (nI a / nI d).toInt64 = lN (a / d) := by
    rw [nI_div (by omega) (by omega), nI_l (by have := Nat.div_le_self a d; omega)]
  have eB : (nI b / nI d).toInt64 = lN (b / d) := by
    rw [nI_div (by omega) (by omega), nI_l (by have := Nat.div_le_self b d; omega)]
  have ew : w_low a b part = if part = 0 then lN (a / d) else lN (b / d) := by
    unfold w_low
    rw [d1]
    rfl
  rw [ew]
  refine ⟨fun g => ?_, fun g => ?_⟩
  · unfold f_X10_lowest
    have := x10_low (a := a) (b := b) (by omega) (by omega) part g 21 a b 0 50000 d d1 (by omega) (by omega) (by omega) (by omega)
    rw [nI_0] at this
    rw [this]
    unfold J_X10_lowest_39
    have n0 : ¬ nI d = 0 := nI_ne0 (by omega) (by omega)
    rw [if_neg n0, if_neg n0, if_neg n0, eA, eB]
    split <;> rfl
  · unfold f_X11_lowest
    by_cases a0 : a = 0
    · rw [if_pos ((lg_cmp0 (by omega)).mpr a0)]
      subst a0
      have ed : d = b := by
        rw [show 2 * 10 + 1 = 19 + 1 + 1 by omega, c_eu, if_neg (by omega), Nat.zero_mod, c_eu, if_pos rfl] at d1
        cases d1
        rfl
      subst ed
      rcases hp with q | q
      · subst q
        rw [if_pos rfl, Nat.zero_div]
        rfl
      · subst q
        rw [if_neg (by decide), Nat.div_self hb0]
        rfl
    · rw [if_neg (fun z => a0 ((lg_cmp0 (by omega)).mp z))]
      rw [x11_low part g 21 a b 50000 d d1 (by omega) (by omega) d3 (by omega) (by omega) (by omega) (by omega)]
      split <;> rfl
theorem w_hold_ex {n : Nat} {s : Nat → Nat → Int32} {tk : Nat → Nat → List (Nat × Int32)} (hw : w_wf n s) {p : Nat} (hp : p < n) : ∃ l, l < 200 ∧ w_hold tk s n p = nI l := by
  obtain ⟨k, hk, e⟩ := (hw.1 p hp).2.2.1
  obtain ⟨m, hm, em0⟩ := (hw.1 p hp).2.2.2.1
  obtain ⟨l, hl, el⟩ : ∃ l, l < 100 ∧ s_say tk (s 0 8) 1 (w_nm s n p) = nI l := by
    unfold s_say
    split
    · exact ⟨0, by omega, nI_0.symm⟩
    · split
      · rw [if_pos rfl]
        exact s_bound_ex _
      · exact ⟨0, by omega, nI_0.symm⟩
  have p10 : nI l + 10 = nI (l + 10) := nI_add l 10
  have d2 : nI l / 2 = nI (l / 2) := nI_div (b := 2) (by omega) (by omega)
  unfold w_hold
  rw [e, nI_clamp (by omega), el, em0]
  unfold s_holdK
  split
  · exact ⟨l + 10, by omega, by rw [p10, i_max_n (by omega)]⟩
  · split
    · exact ⟨l / 2, by omega, by rw [d2, i_max_n (by omega)]⟩
    · split
      · exact ⟨m, by omega, i_max_n (by omega)⟩
      · exact ⟨l, by omega, i_max_n (by omega)⟩
theorem ok_strain : OK_strain SS Inv_ := by
  intro g a1 a2 hI
  obtain ⟨f, r⟩ := g
  obtain ⟨n, tc, tz, tk, s, h⟩ := hI
  have h : IN f r n tc tz tk s := h
  have hG : GG (f, r) := h.1.cs.1
  have h10 := rf10 hG
  have hw := h.2.1.2.2.1
  have hS : IsS 52 := Or.inl rfl
  rcases s_has_or h.1.le a1 with z | ⟨p, hp, rfl, z⟩
  · refine ask0 h (-4611686018427387904) ?_ ?_
    · unfold f_X10_strain
      rw [if_pos ob10, h10.2.2.1, Option.bind_some, sq_has h.1, Option.bind_some, z, if_pos rfl]
    · unfold f_X11_strain
      rw [if_pos ob11, mw_one h.2.1, Option.bind_some, z, if_pos rfl]
  · have hp6 := h.2.1.lt hp
    obtain ⟨l, hl, el⟩ := w_hold_ex (tk := tk) hw hp
    obtain ⟨x, hx, ex⟩ := (hw.1 p hp).2.2.2.2
    obtain ⟨f1, b1, b2⟩ := sq_hold h.1 hp
    have s1 : f_X10_strain SS 0 (nI p) a2 (f, r) = if a2 < 0 then some (-4611686018427387904, (f, r)) else if a2 ≤ 1 then (if 0 < nI l then (f_X10_lowest SS (nI x) (nI l) a2 (f1, r)).bind fun q16 => some (q16.1, q16.2) else some (-4611686018427387904, (f1, r))) else some (-4611686018427387904, (f, r)) := by
      have c3 : f1 55 p = nI x := ((h.1.ke b2).row (j := 3) (by omega) (by omega) p hp).trans ex
      have h10' := rf10 (show GG (f1, r) from hG)
      have h7' := rfS (show GG (f1, r) from hG) hS
      unfold f_X10_strain
      rw [if_pos ob10, h10.2.2.1, Option.bind_some, sq_has h.1, Option.bind_some, z, if_neg (show ¬ (1 : Int32) = 0 by decide)]
      simp only [h10, Option.bind_some, b1, el, h10', h7', aI_ok (arS hS).2.2.1 hp6 (by omega : 6 < 2 ^ 31), c3]
    have s2 : ∀ f1, IN f1 r n tc tz tk s → ∃ f2, KM f1 f2 ∧ f_X11_strain SS 76 (nI p) a2 (f1, r) = if s_in a2 0 1 = 0 then some (-4611686018427387904, (f1, r)) else if nI l = 0 then some (-4611686018427387904, (f2, r)) else (f_X11_lowest SS (lN x) (lN l) a2 (f2, r)).bind fun q12 => some (q12.1, q12.2) := by
      intro f1 h1
      obtain ⟨f2, c1, c2⟩ := m_hold h1.2.1 hp
      have h2 := h1.2.1.ka c2
      have d3 : m_N (f2, r) p = nI x := (h2.row (j := 3) (by omega) (by omega) p hp).trans ex
      have h11 := rf11 (show GG (f2, r) from hG)
      refine ⟨f2, KM.ka c2, ?_⟩
      unfold f_X11_strain
      rw [if_pos ob11, mw_one h1.2.1, Option.bind_some, z, if_neg (show ¬ (1 : Int32) = 0 by decide), m_in, Option.bind_some, c1, Option.bind_some, el]
      simp only [h11, Option.bind_some, m_aN (f2, r) hp6, d3, nI_l (show x < 2 ^ 31 by omega), nI_l (show l < 2 ^ 31 by omega)]
    rcases arg3 a2 1 2 1 (by decide +kernel) (by decide +kernel) (by omega) with ⟨p1, p2⟩ | ⟨p1, p2, p3, p4, p5, p6⟩ | ⟨e, he, ee, p1, p2, p3, p4, p5, p6⟩
    · refine ask0 h (-4611686018427387904) (by rw [s1, if_pos p1]) ?_
      obtain ⟨f2, -, c⟩ := s2 f h
      rw [c, p2, if_pos rfl]
    · refine ask0 h (-4611686018427387904) (by rw [s1, if_neg p1, if_neg p4]) ?_
      obtain ⟨f2, -, c⟩ := s2 f h
      rw [c, p6, if_pos rfl]
    · have h01 : a2 = 0 ∨ a2 = 1 := by
        match e, he with
        | 0, _ => exact Or.inl ee
        | 1, _ => exact Or.inr ee
      by_cases l0 : l = 0
      · refine ask_ h (-4611686018427387904) ⟨f1, ?_, KT.ke b2⟩ (fun f1 h1 => ?_)
        · rw [s1, if_neg p1, if_pos p4, l0, nI_0, if_neg (by decide)]
        · obtain ⟨f2, k, c⟩ := s2 f1 h1
          refine ⟨f2, ?_, k⟩
          rw [c, p6, if_neg (show ¬ (1 : Int32) = 0 by decide), l0, nI_0, if_pos rfl]
      · obtain ⟨w1, w2⟩ := low_both (a := x) (b := l) (by omega) (by omega) (by omega) h01
        refine ask_ h (w_low x l a2) ⟨f1, ?_, KT.ke b2⟩ (fun f1 h1 => ?_)
        · rw [s1, if_neg p1, if_pos p4, if_pos (by rw [← nI_0]; exact nI_lt (by omega) (by omega)), w1]
          rfl
        · obtain ⟨f2, k, c⟩ := s2 f1 h1
          refine ⟨f2, ?_, k⟩
          rw [c, p6, if_neg (show ¬ (1 : Int32) = 0 by decide), if_neg (nI_ne0 (by omega) (by omega)), w2]
          rfl
theorem ok_drawn : OK_drawn SS Inv_ := by
  intro g a1 a2 hI
  obtain ⟨f, r⟩ := g
  obtain ⟨n, tc, tz, tk, s, h⟩ := hI
  have h : IN f r n tc tz tk s := h
  have hG : GG (f, r) := h.1.cs.1
  have hw := h.2.1.2.2.1
  rcases arg3 a1 99999 100000 99999 (by decide +kernel) (by decide +kernel) (by omega) with ⟨q1, q2⟩ | ⟨q1, q2, q3, q4, q5, q6⟩ | ⟨l, hl, rfl, q1, q2, q3, q4, q5, q6⟩
  · exact ask0 h (-2) (by unfold f_X10_drawn; rw [if_pos ob10, if_pos q1]) (by unfold f_X11_drawn; rw [if_pos ob11, m_in, Option.bind_some, q2]; rfl)
  · exact ask0 h (-2) (by unfold f_X10_drawn; rw [if_pos ob10, if_neg q1, if_pos q2]) (by unfold f_X11_drawn; rw [if_pos ob11, m_in, Option.bind_some, q6]; rfl)
  · rcases arg3 a2 1 2 1 (by decide +kernel) (by decide +kernel) (by omega) with ⟨p1, p2⟩ | ⟨p1, p2, p3, p4, p5, p6⟩ | ⟨e, he, ee, p1, p2, p3, p4, p5, p6⟩
    · exact ask0 h (-2) (by unfold f_X10_drawn; rw [if_pos ob10, if_neg q1, if_neg q2, if_pos p1]) (by unfold f_X11_drawn; rw [if_pos ob11, m_in, Option.bind_some, q6, if_neg (show ¬ (1 : Int32) = 0 by decide), m_in, Option.bind_some, p2, if_pos rfl])
    · exact ask0 h (-2) (by unfold f_X10_drawn; rw [if_pos ob10, if_neg q1, if_neg q2, if_neg p1, if_neg p4]) (by unfold f_X11_drawn; rw [if_pos ob11, m_in, Option.bind_some, q6, if_neg (show ¬ (1 : Int32) = 0 by decide), m_in, Option.bind_some, p6, if_pos rfl])
    · refine ask_ h (if a2 = 0 then s_bits (w_crane tk n (l + 1) s 6) n else s_meets (w_crane tk n (l + 1) s 1) (w_crane tk n (l + 1) s 2) n) ?_ (fun f1 h1 => ?_)
      · obtain ⟨f1, b1, b2, b3⟩ := sq_cranes h.1 hw (l := l) (by omega)
        have h10' := rf10 (show GG (f1, r) from hG)
        refine ⟨f1, ?_, b2⟩
        unfold f_X10_drawn
        rw [if_pos ob10, if_neg q1, if_neg q2, if_neg p1, if_pos p4, b1, Option.bind_some]
        simp only [h10', Option.bind_some, sq_bits b3, sq_meets b3]
        split <;> rfl
      · obtain ⟨f2, c1, c2, c3⟩ := mw_cranes h1.2.1 (l := l) (by omega)
        refine ⟨f2, ?_, c2⟩
        unfold f_X11_drawn
        rw [if_pos ob11, m_in, Option.bind_some, q6, if_neg (show ¬ (1 : Int32) = 0 by decide), m_in, Option.bind_some, p6, if_neg (show ¬ (1 : Int32) = 0 by decide), c1, Option.bind_some]
        simp only [gI_ok ob11, Option.bind_some, c3]
        split <;> rfl
/-! odds -/
theorem s_bits_has (K : Nat → Int32) {n : Nat} (h6 : n ≤ 6) (hK : ∀ p, p < n → K p = 0 ∨ K p = 1) {p : Nat} (hp : p < n) : (s_bits K n >>> (nI p &&& 31)) &&& (1 : Int32) = K p := by
  have key : ∀ k, k ≤ n → ∃ b, b < 64 ∧ itF (σ := Int32) (fun i a => if K i = 0 then a else a ||| ((1 : Int32) <<< (nI i &&& 31))) k 0 0 = nI b ∧ ∀ j, j < 6 → (b / 2 ^ j % 2 = 1 ↔ j < k ∧ K j = 1) := by
    intro k
    induction k with
    | zero => intro _; exact ⟨0, by omega, nI_0.symm, fun j _ => by rw [Nat.zero_div]; omega⟩
    | succ k ih =>
      intro hk
      obtain ⟨b, h1, h2, h3⟩ := ih (by omega)
      rw [itF_next, h2]
      rcases hK k (by omega) with q | q
      · rw [if_pos q]
        refine ⟨b, h1, rfl, fun j hj => ?_⟩
        rw [h3 j hj]
        constructor
        · intro z; exact ⟨by omega, z.2⟩
        · intro z
          refine ⟨?_, z.2⟩
          by_cases e : j = k
          · subst e; rw [q] at z; exact absurd z.2 (by decide)
          · omega
      · rw [if_neg (by rw [q]; decide), bit_n k (by omega), or_n]
        refine ⟨_, c_or_lt b h1 k (by omega), rfl, fun j hj => ?_⟩
        rw [c_has_or b h1 k (by omega) j hj, h3 j hj]
        constructor
        · intro z
          rcases z with z | z
          · subst z; exact ⟨by omega, q⟩
          · exact ⟨by omega, z.2⟩
        · intro z
          by_cases e : j = k
          · exact Or.inl e
          · exact Or.inr ⟨by omega, z.2⟩
  obtain ⟨b, h1, h2, h3⟩ := key n (Nat.le_refl n)
  show (itF (σ := Int32) (fun i a => if K i = 0 then a else a ||| ((1 : Int32) <<< (nI i &&& 31))) n 0 0 >>> (nI p &&& 31)) &&& (1 : Int32) = K p
  rw [h2, c_bit b h1 p (by omega)]
  rcases hK p hp with q | q
  · rw [q]
    have : ¬ b / 2 ^ p % 2 = 1 := fun z => by have := ((h3 p (by omega)).mp z).2; rw [q] at this; exact absurd this (by decide)
    rw [show b / 2 ^ p % 2 = 0 by omega]
    exact nI_0
  · rw [q, (h3 p (by omega)).mpr ⟨hp, q⟩]
    decide +kernel
theorem w_wf.walk {n : Nat} {s : Nat → Nat → Int32} (tk : Nat → Nat → List (Nat × Int32)) (h : w_wf n s) : ∀ i, w_wf n (w_walk tk n s i).2 := by
  intro i
  induction i with
  | zero => exact h
  | succ i ih =>
    have a : w_walk tk n s (i + 1) = w_step tk n i (w_walk tk n s i) := itF_next i _
    rw [a]
    unfold w_step w_new
    obtain ⟨l, hl, el⟩ := s_bound_ex ((w_walk tk n s i).2 3 i + w_lean tk (w_walk tk n s i).2 n i)
    rw [el]
    split
    · split
      · exact ih.up3 i hl
      · exact (ih.up3 i hl).up6 i
    · exact ih
theorem w_wf.dayw {n : Nat} {s : Nat → Nat → Int32} (tk : Nat → Nat → List (Nat × Int32)) (h : w_wf n s) : w_wf n (w_day tk n s).2 := (h.walk tk n).up0 7 _
theorem w_wf.crane {n : Nat} {s : Nat → Nat → Int32} (tk : Nat → Nat → List (Nat × Int32)) (h : w_wf n s) (l : Nat) : w_wf n (w_crane tk n l s) := by
  have key : ∀ k i (a : Nat × (Nat → Nat → Int32)), w_wf n a.2 → w_wf n (itF (w_craneF tk n) k i a).2 := by
    intro k
    induction k with
    | zero => intro i a h; exact h
    | succ k ih =>
      intro i a h
      rw [itF]
      exact ih (i + 1) _ ((wf_turn h a.1).dayw tk)
  exact key 8 0 (l, s) h
def w_oddsF (tk : Nat → Nat → List (Nat × Int32)) (n : Nat) (s : Nat → Nat → Int32) (l p i : Nat) (m : Nat) : Nat := if w_crane tk n (l + i + 1) s 6 p = 0 then m else m + 1
theorem ok_odds : OK_odds SS Inv_ := by
  intro g a1 a2 a3 a4 hI
  obtain ⟨f, r⟩ := g
  obtain ⟨n, tc, tz, tk, s, h⟩ := hI
  have h : IN f r n tc tz tk s := h
  have hG : GG (f, r) := h.1.cs.1
  have h10 := rf10 hG
  have h6 := h.1.le
  have hw := h.2.1.2.2.1
  have hS : IsS 60 := Or.inr (Or.inl rfl)
  have h0 : nI 0 = (0 : Int32) := nI_0
  have no : (1 : Int32) ≠ 0 := by decide
  rcases arg3 a1 99999 100000 99999 (by decide +kernel) (by decide +kernel) (by omega) with ⟨q1, q2⟩ | ⟨q1, q2, q3, q4, q5, q6⟩ | ⟨l, hl, rfl, q1, q2, q3, q4, q5, q6⟩
  · exact ask0 h (-4611686018427387904) (by unfold f_X10_odds; rw [if_pos ob10, if_pos q1]) (by unfold f_X11_odds; rw [if_pos ob11, m_in, Option.bind_some, q2]; rfl)
  · exact ask0 h (-4611686018427387904) (by unfold f_X10_odds; rw [if_pos ob10, if_neg q1, if_pos q2]) (by unfold f_X11_odds; rw [if_pos ob11, m_in, Option.bind_some, q6]; rfl)
  · have x1 : f_X10_odds SS 0 (nI l) a2 a3 a4 (f, r) = if a2 < 1 then some (-4611686018427387904, (f, r)) else if a2 ≤ 40 then (if s_has n a3 = 0 then some (-4611686018427387904, (f, r)) else if a4 < 0 then some (-4611686018427387904, (f, r)) else if a4 ≤ 1 then L_X10_odds_57 50000 SS 0 (nI l) a2 a3 a4 0 0 (f, r) else some (-4611686018427387904, (f, r))) else some (-4611686018427387904, (f, r)) := by
      unfold f_X10_odds
      rw [if_pos ob10, if_neg q1, if_neg q2, h10.2.2.1, Option.bind_some, sq_has h.1, Option.bind_some]
    have x2 : ∀ f1, IN f1 r n tc tz tk s → f_X11_odds SS 76 (nI l) a2 a3 a4 (f1, r) = if s_in a2 1 40 = 0 then some (-4611686018427387904, (f1, r)) else if s_has n a3 = 0 then some (-4611686018427387904, (f1, r)) else if s_in a4 0 1 = 0 then some (-4611686018427387904, (f1, r)) else L_X11_odds_49 50000 SS 76 (nI l) a2 a3 a4 0 0 (f1, r) := by
      intro f1 h1
      unfold f_X11_odds
      rw [if_pos ob11, m_in, Option.bind_some, q6, if_neg no, m_in, Option.bind_some, mw_one h1.2.1, Option.bind_some, m_in, Option.bind_some]
    by_cases u : a2 < 1
    · have e : s_in a2 1 40 = 0 := by unfold s_in; rw [if_pos u]
      exact ask0 h (-4611686018427387904) (by rw [x1, if_pos u]) (by rw [x2 f h, e, if_pos rfl])
    · have k1 : (1 : Int32).toInt = 1 := by decide +kernel
      have k0 : (0 : Int32).toInt = 0 := by decide +kernel
      have u' : ¬ a2 < 0 := fun z => u (Int32.lt_iff_toInt_lt.mpr (by have := Int32.lt_iff_toInt_lt.mp z; omega))
      rcases arg3 a2 40 41 40 (by decide +kernel) (by decide +kernel) (by omega) with ⟨v1, -⟩ | ⟨-, v2, v3, v4, v5, v6⟩ | ⟨d, hd, rfl, v1, v2, v3, v4, v5, v6⟩
      · exact absurd v1 u'
      · have e : s_in a2 1 40 = 0 := by unfold s_in; rw [if_neg u, if_pos v2]
        exact ask0 h (-4611686018427387904) (by rw [x1, if_neg u, if_neg v4]) (by rw [x2 f h, e, if_pos rfl])
      · have e : s_in (nI d) 1 40 = 1 := by unfold s_in; rw [if_neg u, if_neg v2]
        have d0 : 0 < d := by
          by_cases z : d = 0
          · exfalso
            apply u
            rw [z]
            decide +kernel
          · omega
        rcases s_has_or h6 a3 with z | ⟨p, hp, rfl, z⟩
        · exact ask0 h (-4611686018427387904) (by rw [x1, if_neg u, if_pos v4, if_pos z]) (by rw [x2 f h, e, if_neg no, if_pos z])
        · have hp6 := h.2.1.lt hp
          rcases arg3 a4 1 2 1 (by decide +kernel) (by decide +kernel) (by omega) with ⟨p1, p2⟩ | ⟨p1, p2, p3, p4, p5, p6⟩ | ⟨t, ht, et, p1, p2, p3, p4, p5, p6⟩
          · exact ask0 h (-4611686018427387904) (by rw [x1, if_neg u, if_pos v4, z, if_neg no, if_pos p1]) (by rw [x2 f h, e, if_neg no, z, if_neg no, p2, if_pos rfl])
          · exact ask0 h (-4611686018427387904) (by rw [x1, if_neg u, if_pos v4, z, if_neg no, if_neg p1, if_neg p4]) (by rw [x2 f h, e, if_neg no, z, if_neg no, p6, if_pos rfl])
          · have h01 : a4 = 0 ∨ a4 = 1 := by
              match t, ht with
              | 0, _ => exact Or.inl et
              | 1, _ => exact Or.inr et
            have cnt : ∀ k, k ≤ d → itF (w_oddsF tk n s l p) k 0 0 ≤ k := by
              intro k
              induction k with
              | zero => intro _; exact Nat.le_refl 0
              | succ k ih =>
                intro hk
                have := ih (by omega)
                rw [itF_next]
                unfold w_oddsF at this ⊢
                split <;> omega
            have cd := cnt d (Nat.le_refl d)
            refine ask_ h (w_low (itF (w_oddsF tk n s l p) d 0 0) d a4) ?_ (fun f1 h1 => ?_)
            · have r60 : ∀ f, e_gR SS (f, r) 10 0 3 = some 60 := fun f => (rf10 (g := (f, r)) hG).2.2.2.1
              have r66 : ∀ f, e_gR SS (f, r) 7 60 5 = some 66 := fun f => (rfS (g := (f, r)) hG hS).2.2.2.2.2.1
              have a66 : ∀ f : Nat → Nat → Int32, e_aI SS (f, r) 1 66 (nI p) = some (f 66 p) := fun f => aI_ok (arS hS).2.2.2.2.2.1 (by omega) (by omega)
              have key := loopY (L := fun m k (a : Nat × (Nat → Nat → Int32)) => L_X10_odds_57 m SS 0 (nI l) (nI d) (nI p) a4 (nI a.1) k (a.2, r)) (n := d) (F := w_oddsF tk n s l p)
                (I := fun i t a => a.1 = t ∧ t ≤ i ∧ KT f a.2) (P := fun t q => ∃ f', q = (w_low t d a4, (f', r)) ∧ KT f f')
                (fun m t a hI => by
                  obtain ⟨rfl, i1, i2⟩ := hI
                  obtain ⟨w1, w2⟩ := low_both (a := a.1) (b := d) (by omega) (by omega) d0 h01
                  refine ⟨(w_low a.1 d a4, (a.2, r)), ?_, a.2, rfl, i2⟩
                  show L_X10_odds_57 (m + 1) SS 0 (nI l) (nI d) (nI p) a4 (nI a.1) (nI d) (a.2, r) = _
                  rw [L_X10_odds_57, if_pos (nI_le (Nat.le_refl d) (by omega)), w1]
                  rfl)
                (fun m j t a hj hI => by
                  obtain ⟨rfl, i1, i2⟩ := hI
                  have h52 := h.1.kt (Or.inl rfl) i2
                  obtain ⟨f1, b1, b2, b3⟩ := sq_cranes h52 hw (l := l + j) (by omega)
                  have e6 : f1 66 p = w_crane tk n (l + j + 1) s 6 p := b3.row (j := 6) (by omega) (by omega) p hp
                  show ∃ s' : Nat × (Nat → Nat → Int32), L_X10_odds_57 (m + 1) SS 0 (nI l) (nI d) (nI p) a4 (nI a.1) (nI j) (a.2, r) = L_X10_odds_57 m SS 0 (nI l) (nI d) (nI p) a4 (nI s'.1) (nI (j + 1)) (s'.2, r) ∧ _
                  rw [L_X10_odds_57, if_neg (nI_ge hj (by omega)), nI_add, b1, Option.bind_some, r60, Option.bind_some, r66, Option.bind_some, a66, Option.bind_some, e6]
                  unfold w_oddsF
                  by_cases y : w_crane tk n (l + j + 1) s 6 p = 0
                  · rw [if_pos y, if_pos y]
                    exact ⟨(a.1, f1), by rw [J_X10_odds_86, nI_1], rfl, by omega, i2.trans b2⟩
                  · rw [if_neg y, if_neg y]
                    exact ⟨(a.1 + 1, f1), by rw [J_X10_odds_86, nI_1, nI_1], rfl, by omega, i2.trans b2⟩)
                d 0 50000 0 (0, f) (by omega) (by omega) ⟨rfl, Nat.le_refl 0, KT.rfl'⟩
              rw [h0] at key
              obtain ⟨q, k1, f', k3, k4⟩ := key
              refine ⟨f', ?_, k4⟩
              rw [x1, if_neg u, if_pos v4, z, if_neg no, if_neg p1, if_pos p4]
              have k1' : L_X10_odds_57 50000 SS 0 (nI l) (nI d) (nI p) a4 (nI 0) 0 (f, r) = some q := k1
              rw [h0] at k1'
              exact k1'.trans (by rw [k3])
            · have key := loopY (L := fun m k (a : Nat × (Nat → Nat → Int32)) => L_X11_odds_49 m SS 76 (nI l) (nI d) (nI p) a4 (lN a.1) k (a.2, r)) (n := d) (F := w_oddsF tk n s l p)
                (I := fun i t a => a.1 = t ∧ t ≤ i ∧ KM f1 a.2) (P := fun t q => ∃ f', q = (w_low t d a4, (f', r)) ∧ KM f1 f')
                (fun m t a hI => by
                  obtain ⟨rfl, i1, i2⟩ := hI
                  obtain ⟨w1, w2⟩ := low_both (a := a.1) (b := d) (by omega) (by omega) d0 h01
                  refine ⟨(w_low a.1 d a4, (a.2, r)), ?_, a.2, rfl, i2⟩
                  show L_X11_odds_49 (m + 1) SS 76 (nI l) (nI d) (nI p) a4 (lN a.1) (nI d) (a.2, r) = _
                  rw [L_X11_odds_49, if_pos (nI_le (Nat.le_refl d) (by omega)), nI_l (show d < 2 ^ 31 by omega), w2]
                  rfl)
                (fun m j t a hj hI => by
                  obtain ⟨rfl, i1, i2⟩ := hI
                  have h2 := h1.2.1.km i2
                  obtain ⟨f2, c1, c2, -⟩ := mw_cranes h2 (l := l + j) (by omega)
                  have wfc := hw.crane tk (l + j + 1)
                  have eb := s_bits_has (w_crane tk n (l + j + 1) s 6) h6 (fun p hp => (wfc.1 p hp).2.1) hp
                  show ∃ s' : Nat × (Nat → Nat → Int32), L_X11_odds_49 (m + 1) SS 76 (nI l) (nI d) (nI p) a4 (lN a.1) (nI j) (a.2, r) = L_X11_odds_49 m SS 76 (nI l) (nI d) (nI p) a4 (lN s'.1) (nI (j + 1)) (s'.2, r) ∧ _
                  rw [L_X11_odds_49, if_neg (nI_ge hj (by omega)), nI_add, c1, Option.bind_some]
                  show ∃ s' : Nat × (Nat → Nat → Int32), (if (s_bits (w_crane tk n (l + j + 1) s 6) n >>> (nI p &&& 31)) &&& (1 : Int32) = 1 then _ else _) = _ ∧ _
                  rw [eb]
                  unfold w_oddsF
                  rcases (wfc.1 p hp).2.1 with y | y
                  · rw [if_pos y, if_neg (by rw [y]; decide)]
                    exact ⟨(a.1, f2), by rw [J_X11_odds_78, nI_1, Int64.add_zero], rfl, by omega, i2.trans c2⟩
                  · rw [if_neg (show ¬ w_crane tk n (l + j + 1) s 6 p = 0 by rw [y]; decide), if_pos y]
                    exact ⟨(a.1 + 1, f2), by rw [J_X11_odds_78, nI_1, lN_1], rfl, by omega, i2.trans c2⟩)
                d 0 50000 0 (0, f1) (by omega) (by omega) ⟨rfl, Nat.le_refl 0, KM.rfl'⟩
              rw [h0] at key
              obtain ⟨q, k1, f', k3, k4⟩ := key
              refine ⟨f', ?_, k4⟩
              rw [x2 f1 h1, e, if_neg no, z, if_neg no, p6, if_neg no]
              have k1' : L_X11_odds_49 50000 SS 76 (nI l) (nI d) (nI p) a4 (lN 0) 0 (f1, r) = some q := k1
              rw [show lN 0 = (0 : Int64) by decide +kernel] at k1'
              exact k1'.trans (by rw [k3])
