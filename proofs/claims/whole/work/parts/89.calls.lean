/-! film -/
theorem w_wf.daysw {n : Nat} {s : Nat → Nat → Int32} (tk : Nat → Nat → List (Nat × Int32)) (h : w_wf n s) : ∀ d, w_wf n (w_days tk n d s) := by
  intro d
  induction d with
  | zero => exact h
  | succ d ih =>
    have a : w_days tk n (d + 1) s = (w_day tk n (w_days tk n d s)).2 := itF_next d _
    rw [a]
    exact ih.dayw tk
theorem nar_lean : ∀ l, l < 100 → c_nar 0 (nI l) = nI l := by decide +kernel
/-- how one leans behind so many days, and one -/
def w_filmG (tk : Nat → Nat → List (Nat × Int32)) (n : Nat) (s : Nat → Nat → Int32) (p k : Nat) : Int32 := w_days tk n (k + 1) s 3 p
theorem sq_film {f : Nat → Nat → Int32} {r : Nat → Nat → Option Nat} {n : Nat} {tk : Nat → Nat → List (Nat × Int32)} {s : Nat → Nat → Int32} (h : SQ f r 60 n tk s) (hw : w_wf n s) {p : Nat} (hp : p < n) {i d : Nat} (hi : i < 4) (hd : d ≤ 20) (c1 : f (37 + 2 * i) 1 = 0) (c2 : f (37 + 2 * i) 2 = nI d) : ∃ f', L_X10_film_62 50000 SS 0 (nI i) (nI p) (nI d) 0 (f, r) = some (nI d, (f', r)) ∧ (∀ b, NS b → (b < 60 ∨ 67 ≤ b) → b ≠ 38 + 2 * i → f' b = f b) ∧ ∀ k, k < d → f' (38 + 2 * i) k = w_filmG tk n s p k := by
  have hG : GG (f, r) := h.cs.1
  have h6 := h.le
  have hS : IsS 60 := Or.inr (Or.inl rfl)
  have r60 : ∀ f, e_gR SS (f, r) 10 0 3 = some 60 := fun f => (rf10 (g := (f, r)) hG).2.2.2.1
  have r2 : ∀ f, e_gR SS (f, r) 10 0 1 = some 2 := fun f => (rf10 (g := (f, r)) hG).2.1
  have rs : ∀ f : Nat → Nat → Int32, e_aR SS (f, r) 4 2 (nI i) = some (37 + 2 * i) := fun f => rfShs (show GG (f, r) from hG) hi
  have r63 : ∀ f, e_gR SS (f, r) 7 60 2 = some 63 := fun f => (rfS (g := (f, r)) hG hS).2.2.1
  have a63 : ∀ f : Nat → Nat → Int32, e_aI SS (f, r) 0 63 (nI p) = some (f 63 p) := fun f => aI_ok (arS hS).2.2.1 (by omega) (by omega)
  have key := loopR (L := fun m j (a : Nat → Nat → Int32) => L_X10_film_62 m SS 0 (nI i) (nI p) (nI d) j (a, r)) (n := d)
    (I := fun j a => SQ a r 60 n tk (w_days tk n j s) ∧ (∀ b, NS b → (b < 60 ∨ 67 ≤ b) → b ≠ 38 + 2 * i → a b = f b) ∧ ∀ k, k < j → a (38 + 2 * i) k = w_filmG tk n s p k)
    (P := fun q => ∃ f', q = (nI d, (f', r)) ∧ (∀ b, NS b → (b < 60 ∨ 67 ≤ b) → b ≠ 38 + 2 * i → f' b = f b) ∧ ∀ k, k < d → f' (38 + 2 * i) k = w_filmG tk n s p k)
    (fun m a hI => by
      refine ⟨(nI d, (a, r)), ?_, a, rfl, hI.2⟩
      show L_X10_film_62 (m + 1) SS 0 (nI i) (nI p) (nI d) (nI d) (a, r) = _
      rw [L_X10_film_62, if_pos (nI_le (Nat.le_refl d) (by omega))])
    (fun m j a hj hI => by
      obtain ⟨i1, i2, i3⟩ := hI
      obtain ⟨f', b1, b2, b3⟩ := sq_day i1
      have e : w_days tk n (j + 1) s = (w_day tk n (w_days tk n j s)).2 := itF_next j _
      rw [← e] at b3
      have kt : ∀ b, NS b → (b < 60 ∨ 67 ≤ b) → f' b = a b := fun b h1 h2 => b2 b h1 (by omega) (by omega) (by omega)
      have y1 : f' (37 + 2 * i) 1 = 0 := by rw [kt _ (by unfold NS; omega) (by omega), i2 _ (by unfold NS; omega) (by omega) (by omega)]; exact c1
      have y2 : f' (37 + 2 * i) 2 = nI d := by rw [kt _ (by unfold NS; omega) (by omega), i2 _ (by unfold NS; omega) (by omega) (by omega)]; exact c2
      have y3 : f' 63 p = w_filmG tk n s p j := b3.row (j := 3) (by omega) (by omega) p hp
      obtain ⟨l, hl, el⟩ := ((hw.daysw tk (j + 1)).1 p hp).2.2.2.2
      have el : w_filmG tk n s p j = nI l := el
      refine ⟨e_up f' (38 + 2 * i) j (nI l), ?_, b3.of2 (fun q hq => by rw [e_up_row (by omega)]) (fun b x1 x2 _ => by rw [e_up_row (by omega)]), fun b h1 h2 h3 => by rw [e_up_row h3, kt b h1 h2]; exact i2 b h1 h2 h3, fun k hk => ?_⟩
      · show L_X10_film_62 (m + 1) SS 0 (nI i) (nI p) (nI d) (nI j) (a, r) = _
        rw [L_X10_film_62, if_neg (nI_ge hj (by omega)), r60, Option.bind_some, b1, Option.bind_some, r2, Option.bind_some, rs, Option.bind_some, r60, Option.bind_some, r63, Option.bind_some, a63, Option.bind_some, y3, x6_set (show GG (f', r) from hG) hi y1 y2 (by omega) hj, Option.bind_some, el, nar_lean l hl, nI_1]
      · rw [e_up_at]
        by_cases z : k = j
        · rw [if_pos z, z, el]
        · rw [if_neg z, kt _ (by unfold NS; omega) (by omega)]
          exact i3 k (by omega))
    d 0 50000 f (by omega) (by omega) ⟨h, fun _ _ _ _ => rfl, fun k hk => by omega⟩
  rw [nI_0] at key
  obtain ⟨q, k1, f', k2, k3⟩ := key
  exact ⟨f', k1.trans (by rw [k2]), k3⟩
theorem mw_film {f : Nat → Nat → Int32} {r : Nat → Nat → Option Nat} {n : Nat} {tk : Nat → Nat → List (Nat × Int32)} {s : Nat → Nat → Int32} (h : MW f r n tk s) {p : Nat} (hp : p < n) {i d : Nat} (hi : i < 4) (hd : d ≤ 20) : ∃ f', (f_X11_keepsAll SS 76 (f, r)).bind (fun q16 => L_X11_film_57 50000 SS 76 (nI i) (nI p) (nI d) 0 q16) = some (nI d, (f', r)) ∧ (∀ b, b < 91 → b ≠ 79 → b ≠ 76 → b ≠ 87 → f' b = f b) ∧ (∀ k, k < 24 → f' 79 k = f 79 k) ∧ (∀ k, k < 18 → f' 76 k = f 76 k) ∧ (∀ k, k < d → f' 87 (40 * i + k) = w_filmG tk n s p k) ∧ ∀ q, (q < 40 * i ∨ 40 * i + 40 ≤ q) → f' 87 q = f 87 q := by
  have hG : GG (f, r) := h.1.1
  have hp6 := h.lt hp
  have r79 : ∀ f, e_gR SS (f, r) 11 76 3 = some 79 := fun f => (rf11 (g := (f, r)) hG).2.2.1
  have r87 : ∀ f, e_gR SS (f, r) 11 76 16 = some 87 := fun f => (rf11 (g := (f, r)) hG).2.2.2.2.2.2.2.2.2.2.1
  have A87 : ArA 0 87 160 := by unfold ArA; decide +kernel
  have k40 : (40 : Int32) = nI 40 := by decide +kernel
  obtain ⟨f1, c1, c2, c3, c4⟩ := m_keep hG
  have h1 : MW f1 r n tk s := h.of (by rw [c2 76 (by omega)]) (by rw [c2 76 (by omega)]) (by rw [c2 76 (by omega)]) (c2 77 (by omega)) (c2 78 (by omega)) (fun k _ => by rw [c2 79 (by omega)]) (c2 81 (by omega)) (c2 82 (by omega))
  rw [c1, Option.bind_some]
  have key := loopR (L := fun m j (a : Nat → Nat → Int32) => L_X11_film_57 m SS 76 (nI i) (nI p) (nI d) j (a, r)) (n := 40)
    (I := fun j a => MW a r n tk (w_days tk n (min j d) s) ∧ (∀ b, b ≠ 91 → b ≠ 92 → b ≠ 79 → b ≠ 76 → b ≠ 87 → a b = f1 b) ∧ (∀ k, k ≠ 4 → a 76 k = f1 76 k) ∧ (∀ k, k < j → k < d → a 87 (40 * i + k) = w_filmG tk n s p k) ∧ ∀ q, (q < 40 * i ∨ 40 * i + 40 ≤ q) → a 87 q = f1 87 q)
    (P := fun q => ∃ f', q = (nI d, (f', r)) ∧ (∀ b, b < 91 → b ≠ 79 → b ≠ 76 → b ≠ 87 → f' b = f b) ∧ (∀ k, k < 24 → f' 79 k = f 79 k) ∧ (∀ k, k < 18 → f' 76 k = f 76 k) ∧ (∀ k, k < d → f' 87 (40 * i + k) = w_filmG tk n s p k) ∧ ∀ q, (q < 40 * i ∨ 40 * i + 40 ≤ q) → f' 87 q = f 87 q)
    (fun m a hI => by
      obtain ⟨i1, i2, i3, i4, i5⟩ := hI
      obtain ⟨f', d1, d2, d3, d4, d5⟩ := m_lay (f := a) (r := r) hG
      have e93 : a 93 = f1 93 := i2 93 (by omega) (by omega) (by omega) (by omega) (by omega)
      have e87 : f' 87 = a 87 := d2 87 (by omega) (by omega)
      refine ⟨(nI d, (f', r)), ?_, f', rfl, fun b x1 x2 x3 x4 => by rw [d2 b x2 x3, i2 b (by omega) (by omega) x2 x3 x4, c2 b (by omega)], fun k hk => by rw [d3 k hk, e93, c3 k hk], fun k hk => ?_, fun k hk => by rw [e87]; exact i4 k (by omega) hk, fun q hq => by rw [e87, i5 q hq, c2 87 (by omega)]⟩
      · show L_X11_film_57 (m + 1) SS 76 (nI i) (nI p) (nI d) (nI 40) (a, r) = _
        rw [L_X11_film_57, if_pos (by rw [k40]; exact nI_le (Nat.le_refl 40) (by omega)), d1, Option.bind_some]
      · by_cases z : k = 4
        · rw [z, d5, e93, c4]
        · rw [d4 k z, i3 k z, c2 76 (by omega)])
    (fun m j a hj hI => by
      obtain ⟨i1, i2, i3, i4, i5⟩ := hI
      obtain ⟨A, hA⟩ : ∃ q, q = e_up a 87 (40 * i + j) 0 := ⟨_, rfl⟩
      have rA : ∀ b, b ≠ 87 → A b = a b := fun b hb => by rw [hA]; exact e_up_row hb
      have mA : MW A r n tk (w_days tk n (min j d) s) := i1.of (by rw [rA 76 (by omega)]) (by rw [rA 76 (by omega)]) (by rw [rA 76 (by omega)]) (rA 77 (by omega)) (rA 78 (by omega)) (fun k _ => by rw [rA 79 (by omega)]) (rA 81 (by omega)) (rA 82 (by omega))
      show ∃ s', L_X11_film_57 (m + 1) SS 76 (nI i) (nI p) (nI d) (nI j) (a, r) = L_X11_film_57 m SS 76 (nI i) (nI p) (nI d) (nI (j + 1)) (s', r) ∧ _
      rw [L_X11_film_57, if_neg (by rw [k40]; exact nI_ge hj (by omega)), r87, Option.bind_some, nI_40j, aS_ok A87 (by omega) (by omega), Option.bind_some]
      show ∃ s', (if nI d ≤ nI j then J_X11_film_110 (L_X11_film_57 m SS) SS 76 (nI i) (nI p) (nI d) (nI j) (e_up a 87 (40 * i + j) 0, r) else (f_X11_dayOf SS 76 (e_up a 87 (40 * i + j) 0, r)).bind _) = _ ∧ _
      rw [← hA]
      by_cases z : j < d
      · rw [if_neg (nI_ge z (by omega))]
        obtain ⟨f', b1, b2, b3⟩ := m_day mA
        have e : w_days tk n (min (j + 1) d) s = (w_day tk n (w_days tk n (min j d) s)).2 := by
          rw [show min (j + 1) d = min j d + 1 by omega]
          exact itF_next _ _
        rw [← e] at b3
        have y3 : f' 79 (4 * p + 2) = w_filmG tk n s p j := by
          have : f' 79 (4 * p + 2) = w_days tk n (min (j + 1) d) s 3 p := b3.row (j := 3) (by omega) (by omega) p hp
          rw [this, show min (j + 1) d = j + 1 by omega]
          rfl
        have rf : ∀ b, b ≠ 87 → e_up f' 87 (40 * i + j) (w_filmG tk n s p j) b = f' b := fun b hb => e_up_row hb
        have f87 : f' 87 = A 87 := b2.1 87 (by omega) (by omega) (by omega) (by omega)
        refine ⟨e_up f' 87 (40 * i + j) (w_filmG tk n s p j), ?_, b3.of (by rw [rf 76 (by omega)]) (by rw [rf 76 (by omega)]) (by rw [rf 76 (by omega)]) (rf 77 (by omega)) (rf 78 (by omega)) (fun k _ => by rw [rf 79 (by omega)]) (rf 81 (by omega)) (rf 82 (by omega)), fun b x1 x2 x3 x4 x5 => by rw [rf b x5, b2.1 b x1 x2 x3 x4, rA b x5]; exact i2 b x1 x2 x3 x4 x5, fun k hk => by rw [rf 76 (by omega), b2.2 k hk, rA 76 (by omega)]; exact i3 k hk, fun k hk hk2 => ?_, fun q hq => by rw [e_up_ne (Or.inr (by omega)), f87, hA, e_up_ne (Or.inr (by omega))]; exact i5 q hq⟩
        · rw [b1, Option.bind_some, r87, Option.bind_some, r79, Option.bind_some]
          rw [show e_aI SS (f', r) 0 79 ((4 : Int32) * nI p + 2) = some (f' 79 (4 * p + 2)) from m_aN (f', r) hp6, Option.bind_some, y3, aS_ok A87 (by omega) (by omega), Option.bind_some, J_X11_film_110, nI_1]
        · rw [e_up_at]
          by_cases y : k = j
          · rw [if_pos (by omega), y]
          · rw [if_neg (by omega), f87, hA, e_up_ne (Or.inr (by omega))]
            exact i4 k (by omega) hk2
      · rw [if_pos (nI_le (by omega) (by omega))]
        refine ⟨A, by rw [J_X11_film_110, nI_1], by rw [show min (j + 1) d = min j d by omega]; exact mA, fun b x1 x2 x3 x4 x5 => by rw [rA b x5]; exact i2 b x1 x2 x3 x4 x5, fun k hk => by rw [rA 76 (by omega)]; exact i3 k hk, fun k hk hk2 => ?_, fun q hq => by rw [hA, e_up_ne (Or.inr (by omega))]; exact i5 q hq⟩
        rw [hA, e_up_ne (Or.inr (by omega))]
        exact i4 k (by omega) hk2)
    40 0 50000 f1 (by omega) (by omega) ⟨by rw [Nat.zero_min]; exact h1, fun _ _ _ _ _ _ => rfl, fun _ _ => rfl, fun k hk => by omega, fun _ _ => rfl⟩
  rw [nI_0] at key
  obtain ⟨q, k1, f', k2, k3⟩ := key
  exact ⟨f', k1.trans (by rw [k2]), k3⟩
theorem ok_film : OK_film SS Inv_ := by
  intro g a1 a2 a3 hI
  obtain ⟨f, r⟩ := g
  obtain ⟨n, tc, tz, tk, s, h⟩ := hI
  have h : IN f r n tc tz tk s := h
  have hG : GG (f, r) := h.1.cs.1
  have h10 := rf10 hG
  have hw := h.2.1.2.2.1
  have no : ¬ (1 : Int32) = 0 := by decide
  rcases arg3 a1 3 4 3 (by decide +kernel) (by decide +kernel) (by omega) with ⟨q1, q2⟩ | ⟨q1, q2, q3, q4, q5, q6⟩ | ⟨i, hi, rfl, q1, q2, q3, q4, q5, q6⟩
  · exact ask0 h (-2) (by unfold f_X10_film; rw [if_pos ob10, x10_sh, if_pos q1, Option.bind_some, if_pos rfl]) (by unfold f_X11_film; rw [if_pos ob11, m_in, Option.bind_some, q2, if_pos rfl])
  · exact ask0 h (-2) (by unfold f_X10_film; rw [if_pos ob10, x10_sh, if_neg q1, if_pos q3, Option.bind_some, if_pos rfl]) (by unfold f_X11_film; rw [if_pos ob11, m_in, Option.bind_some, q6, if_pos rfl])
  · have hi4 : i < 4 := by omega
    have x1 : f_X10_film SS 0 (nI i) a2 a3 (f, r) = if s_has n a2 = 0 then some (-5, (f, r)) else if a3 < 0 then some (-7, (f, r)) else if a3 ≤ 20 then ((f_X6_become SS (37 + 2 * i) 0 a3 (f, r)).bind fun q12 => (e_gR SS q12 10 0 3).bind fun v13 => (e_gR SS q12 10 0 2).bind fun v15 => (f_X7_become SS v13 v15 q12).bind fun q18 => L_X10_film_62 50000 SS 0 (nI i) a2 a3 0 q18) else some (-7, (f, r)) := by
      unfold f_X10_film
      rw [if_pos ob10, x10_sh, if_neg q1, if_neg q3, Option.bind_some, if_neg no]
      simp only [h10, Option.bind_some, sq_has h.1, rfShs hG hi4]
    rcases s_has_or h.1.le a2 with z | ⟨p, hp, rfl, z⟩
    · refine ask0 h (-5) (by rw [x1, if_pos z]) ?_
      unfold f_X11_film
      rw [if_pos ob11, m_in, Option.bind_some, q6, if_neg no, mw_one h.2.1, Option.bind_some, z, if_pos rfl]
    · rcases arg3 a3 20 21 20 (by decide +kernel) (by decide +kernel) (by omega) with ⟨p1, p2⟩ | ⟨p1, p2, p3, p4, p5, p6⟩ | ⟨d, hd, rfl, p1, p2, p3, p4, p5, p6⟩
      · refine ask0 h (-7) (by rw [x1, z, if_neg no, if_pos p1]) ?_
        unfold f_X11_film
        rw [if_pos ob11, m_in, Option.bind_some, q6, if_neg no, mw_one h.2.1, Option.bind_some, z, if_neg no, m_in, Option.bind_some, p2, if_pos rfl]
      · refine ask0 h (-7) (by rw [x1, z, if_neg no, if_neg p1, if_neg p4]) ?_
        unfold f_X11_film
        rw [if_pos ob11, m_in, Option.bind_some, q6, if_neg no, mw_one h.2.1, Option.bind_some, z, if_neg no, m_in, Option.bind_some, p6, if_pos rfl]
      · obtain ⟨f1, a1', a2', a3', a4', a5'⟩ := x6_become hG hi4 0 (z := d) (by omega)
        have h1 : SQ f1 r 52 n tk s := h.1.of2 (fun j hj => a2' _ (by omega) (by omega)) (fun b x1 x2 _ => a2' b (by omega) (by omega))
        obtain ⟨f2, b1, b2, b3⟩ := sq_think h1 hw
        have e2 : f2 (37 + 2 * i) = f1 (37 + 2 * i) := b2 _ (by unfold NS; omega) (by omega)
        obtain ⟨f3, c1, c2, c3⟩ := sq_film b3 hw hp hi4 hd (by rw [e2]; exact a3') (by rw [e2]; exact a4')
        have cl : ∀ b, NS b → (b < 60 ∨ 67 ≤ b) → b ≠ 37 + 2 * i → b ≠ 38 + 2 * i → f3 b = f b := fun b y1 y2 y3 y4 => by rw [c2 b y1 y2 y4, b2 b y1 y2, a2' b y3 y4]
        have hi' : ∀ b, 76 ≤ b → f3 b = f b := fun b hb => cl b (by unfold NS; omega) (by omega) (by omega) (by omega)
        -- the reference
        obtain ⟨F, hF⟩ : ∃ q, q = e_up (e_up f3 85 i 0) 86 i (nI d) := ⟨_, rfl⟩
        have rF : ∀ b, b ≠ 85 → b ≠ 86 → F b = f3 b := fun b y1 y2 => by rw [hF, e_up_row y2, e_up_row y1]
        have m3 : MW F r n tk s := (h.2.1.hi hi').of (by rw [rF 76 (by omega) (by omega)]) (by rw [rF 76 (by omega) (by omega)]) (by rw [rF 76 (by omega) (by omega)]) (rF 77 (by omega) (by omega)) (rF 78 (by omega) (by omega)) (fun k _ => by rw [rF 79 (by omega) (by omega)]) (rF 81 (by omega) (by omega)) (rF 82 (by omega) (by omega))
        obtain ⟨f4, d1, d2, d3, d4, d5, d6⟩ := mw_film m3 hp hi4 hd
        have A85 : ArA 0 85 4 := by unfold ArA; decide +kernel
        have A86 : ArA 0 86 4 := by unfold ArA; decide +kernel
        have lo : ∀ b, b < 76 → f4 b = f3 b := fun b hb => by rw [d2 b (by omega) (by omega) (by omega) (by omega), rF b (by omega) (by omega)]
        have all : ∀ b, NS b → (b < 60 ∨ (67 ≤ b ∧ b < 91)) → b ≠ 37 + 2 * i → b ≠ 38 + 2 * i → b ≠ 79 → b ≠ 76 → b ≠ 85 → b ≠ 86 → b ≠ 87 → f4 b = f b := fun b y1 y2 y3 y4 y5 y6 y7 y8 y9 => by rw [d2 b (by omega) y5 y6 y9, rF b y7 y8, cl b y1 (by omega) y3 y4]
        have f76 : ∀ k, k < 18 → f4 76 k = f 76 k := fun k hk => by rw [d4 k hk, rF 76 (by omega) (by omega), hi' 76 (by omega)]
        have f79 : ∀ k, k < 24 → f4 79 k = f 79 k := fun k hk => by rw [d3 k hk, rF 79 (by omega) (by omega), hi' 79 (by omega)]
        refine do_ (nI d) (f1 := f3) (f2 := f4) (n := n) (tc := tc) (tz := tz) (tk := tk) (s := s) ?_ ?_ ⟨?_, ?_, ?_⟩
        · rw [x1, z, if_neg no, if_neg p1, if_pos p4, a1', Option.bind_some, (rf10 (show GG (f1, r) from hG)).2.2.2.1, Option.bind_some, (rf10 (show GG (f1, r) from hG)).2.2.1, Option.bind_some, b1, Option.bind_some]
          exact c1
        · have r85 : ∀ f, e_gR SS (f, r) 11 76 14 = some 85 := fun f => (rf11 (g := (f, r)) hG).2.2.2.2.2.2.2.2.1
          have r86 : ∀ f, e_gR SS (f, r) 11 76 15 = some 86 := fun f => (rf11 (g := (f, r)) hG).2.2.2.2.2.2.2.2.2.1
          have m0 : MW f3 r n tk s := h.2.1.hi hi'
          unfold f_X11_film
          rw [if_pos ob11, m_in, Option.bind_some, q6, if_neg no, mw_one m0, Option.bind_some, z, if_neg no, m_in, Option.bind_some, p6, if_neg no, r85, Option.bind_some, aS_ok A85 hi4 (by omega), Option.bind_some, r86, Option.bind_some, aS_ok A86 hi4 (by omega), Option.bind_some]
          show (f_X11_keepsAll SS 76 (e_up (e_up f3 85 i 0) 86 i (nI d), r)).bind _ = _
          rw [← hF]
          exact d1
        · exact h.1.of2 (fun j hj => all _ (by unfold NS; omega) (by omega) (by omega) (by omega) (by omega) (by omega) (by omega) (by omega) (by omega)) (fun b x1 x2 x3 => all b x3 (by omega) (by omega) (by omega) (by omega) (by omega) (by omega) (by omega) (by omega))
        · exact h.2.1.of (f76 0 (by omega)) (f76 4 (by omega)) (f76 10 (by omega)) (all 77 (by unfold NS; omega) (by omega) (by omega) (by omega) (by omega) (by omega) (by omega) (by omega) (by omega)) (all 78 (by unfold NS; omega) (by omega) (by omega) (by omega) (by omega) (by omega) (by omega) (by omega) (by omega)) f79 (all 81 (by unfold NS; omega) (by omega) (by omega) (by omega) (by omega) (by omega) (by omega) (by omega) (by omega)) (all 82 (by unfold NS; omega) (by omega) (by omega) (by omega) (by omega) (by omega) (by omega) (by omega) (by omega))
        · have e37 : f4 (37 + 2 * i) = f1 (37 + 2 * i) := by rw [lo _ (by omega), c2 _ (by unfold NS; omega) (by omega) (by omega), e2]
          have e85 : f4 85 = F 85 := d2 85 (by omega) (by omega) (by omega) (by omega)
          have e86 : f4 86 = F 86 := d2 86 (by omega) (by omega) (by omega) (by omega)
          refine h.2.2.sh (fun b y1 y2 y3 y4 y5 y6 y7 => all b y1 (by omega) y3 y4 (by omega) (by omega) y5 y6 y7) (fun j hj => f76 j (by omega)) hi4 (so := 0) (z := d) ⟨by rw [e37]; exact a3', ?_, by rw [e37]; exact a4', ?_, by omega, fun k hk => ?_⟩ (fun j hj hne => ⟨?_, ?_, fun q hq => ?_⟩)
          · rw [e85, hF, e_up_row (by omega), e_up_eq]
          · rw [e86, hF, e_up_eq]
          · rw [lo _ (by omega), c3 k hk, d5 k hk]
          · rw [e85, hF, e_up_row (by omega), e_up_ne (Or.inr hne), hi' 85 (by omega)]
          · rw [e86, hF, e_up_ne (Or.inr hne), e_up_row (by omega), hi' 86 (by omega)]
          · rw [d6 _ (by omega), rF 87 (by omega) (by omega), hi' 87 (by omega)]
