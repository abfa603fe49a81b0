/-! the reference's next -/
def ND (f : Nat → Nat → Int32) (T : Nat → Nat) (z : Nat) : Prop := f 76 6 = nI z ∧ z ≤ 160 ∧ TP f 80 T z ∧ ∀ k, k < 96 → f 89 k = nI (c_wt k)
theorem ND.up {f : Nat → Nat → Int32} {T : Nat → Nat} {z : Nat} (h : ND f T z) {k : Nat} {v : Int32} (hk : k ≠ 6) : ND (e_up f 76 k v) T z := ⟨by rw [e_up_ne (Or.inr (by omega))]; exact h.1, h.2.1, fun j hj => by rw [e_up_row (by omega)]; exact h.2.2.1 j hj, fun j hj => by rw [e_up_row (by omega)]; exact h.2.2.2 j hj⟩
theorem ND.at {f : Nat → Nat → Int32} {r : Nat → Nat → Option Nat} {T : Nat → Nat} {z : Nat} (h : ND f T z) {p : Nat} (hp : p < z) : e_aI SS (f, r) 0 80 (nI p) = some (nI (T p)) := by
  have A80 : ArA 0 80 160 := by unfold ArA; decide +kernel
  have := h.2.1
  rw [aI_ok A80 (by omega) (by omega)]
  exact congrArg some (h.2.2.1 p hp).2
theorem r80_ {r : Nat → Nat → Option Nat} {f0 : Nat → Nat → Int32} (hG : GG (f0, r)) : ∀ f, e_gR SS (f, r) 11 76 5 = some 80 := fun f => (rf11 (g := (f, r)) hG).2.2.2.1
theorem r89_ {r : Nat → Nat → Option Nat} {f0 : Nat → Nat → Int32} (hG : GG (f0, r)) : ∀ f, e_gR SS (f, r) 11 76 22 = some 89 := fun f => (rf11 (g := (f, r)) hG).2.2.2.2.2.2.2.2.2.2.2.2.1
theorem x11_blank {T : Nat → Nat} {z : Nat} {r : Nat → Nat → Option Nat} {f0 : Nat → Nat → Int32} (hG : GG (f0, r)) : ∀ k p f m, ND f T z → f 76 18 = nI p → p ≤ z → z ≤ p + k → k < m → L_X11_next_0 m SS 76 (f, r) = J_X11_next_52 SS 76 (e_up f 76 18 (nI (c_run (c_blank T) z k p)), r) := by
  intro k
  induction k with
  | zero =>
    intro p f m h hn h1 h2 hm
    obtain ⟨m, rfl⟩ : ∃ q, m = q + 1 := ⟨m - 1, by omega⟩
    have := h.2.1
    have : p = z := by omega
    subst this
    rw [L_X11_next_0, gI_ok ob11, Option.bind_some, gI_ok ob11, Option.bind_some, show (f, r).1 76 18 = nI p from hn, show (f, r).1 76 6 = nI p from h.1, if_pos (nI_le (Nat.le_refl p) (by omega))]
    show J_X11_next_52 SS 76 (f, r) = J_X11_next_52 SS 76 (e_up f 76 18 (nI p), r)
    rw [← hn, e_up_id]
  | succ k ih =>
    intro p f m h hn h1 h2 hm
    obtain ⟨m, rfl⟩ : ∃ q, m = q + 1 := ⟨m - 1, by omega⟩
    have z160 := h.2.1
    rw [L_X11_next_0, gI_ok ob11, Option.bind_some, gI_ok ob11, Option.bind_some, show (f, r).1 76 18 = nI p from hn, show (f, r).1 76 6 = nI z from h.1, c_run]
    by_cases hp : p < z
    · have k32 : (32 : Int32) = nI 32 := by decide +kernel
      have k10 : (10 : Int32) = nI 10 := by decide +kernel
      have tb := (h.2.2.1 p hp).1
      rw [if_neg (nI_ge hp (by omega)), r80_ hG, Option.bind_some, Option.bind_some, h.at hp, Option.bind_some]
      have go : ∀ (_ : c_blank T p = true), J_X11_next_39 (L_X11_next_0 m SS) SS 76 (f, r) = J_X11_next_52 SS 76 (e_up f 76 18 (nI (c_run (c_blank T) z k (p + 1))), r) := by
        intro _
        unfold J_X11_next_39
        rw [gI_ok ob11, Option.bind_some, sI_ok ob11, Option.bind_some, show (f, r).1 76 18 = nI p from hn, nI_1]
        have := ih (p + 1) (e_up f 76 18 (nI (p + 1))) m (h.up (by omega)) (by rw [e_up_eq]) (by omega) (by omega) (by omega)
        rw [e_up_up] at this
        exact this
      by_cases b1 : T p = 32
      · have bl : c_blank T p = true := by unfold c_blank; rw [b1]; rfl
        rw [if_pos (by rw [k32, b1]), if_pos ⟨hp, bl⟩]
        exact go bl
      · rw [if_neg (fun y => b1 (nI_inj (by omega) (by omega) (y.trans k32))), Option.bind_some, Option.bind_some, h.at hp, Option.bind_some]
        by_cases b2 : T p = 10
        · have bl : c_blank T p = true := by unfold c_blank; rw [b2]; rfl
          rw [if_pos (by rw [k10, b2]), if_pos ⟨hp, bl⟩]
          exact go bl
        · rw [if_neg (fun y => b2 (nI_inj (by omega) (by omega) (y.trans k10))), if_neg (fun y => by
            have := y.2
            unfold c_blank at this
            simp [b1, b2] at this)]
          show J_X11_next_52 SS 76 (f, r) = J_X11_next_52 SS 76 (e_up f 76 18 (nI p), r)
          rw [← hn, e_up_id]
    · rw [if_pos (nI_le (by omega) (by omega)), if_neg (fun y => hp y.1)]
      show J_X11_next_52 SS 76 (f, r) = J_X11_next_52 SS 76 (e_up f 76 18 (nI p), r)
      rw [← hn, e_up_id]
theorem in_lett {b : Nat} (hb : b < 256) (g : e_G) : f_X11_in SS (nI b) 97 122 g = some (if 97 ≤ b ∧ b ≤ 122 then 1 else 0, g) := by
  rw [m_in, s_in_n (lo := 97) (hi := 122) (by decide +kernel) (by decide +kernel) (by omega) (by omega) (by omega)]
theorem in_dig {b : Nat} (hb : b < 256) (g : e_G) : f_X11_in SS (nI b) 48 57 g = some (if 48 ≤ b ∧ b ≤ 57 then 1 else 0, g) := by
  rw [m_in, s_in_n (lo := 48) (hi := 57) (by decide +kernel) (by decide +kernel) (by omega) (by omega) (by omega)]
theorem x11_letters {T : Nat → Nat} {z : Nat} {r : Nat → Nat → Option Nat} {f0 : Nat → Nat → Int32} (hG : GG (f0, r)) : ∀ k p f m, ND f T z → f 76 18 = nI p → p ≤ z → z ≤ p + k → k < m → L_X11_next_103 m SS 76 (f, r) = J_X11_next_146 SS 76 (e_up f 76 18 (nI (c_run (c_lett T) z k p)), r) := by
  intro k
  induction k with
  | zero =>
    intro p f m h hn h1 h2 hm
    obtain ⟨m, rfl⟩ : ∃ q, m = q + 1 := ⟨m - 1, by omega⟩
    have := h.2.1
    have : p = z := by omega
    subst this
    rw [L_X11_next_103, gI_ok ob11, Option.bind_some, gI_ok ob11, Option.bind_some, show (f, r).1 76 18 = nI p from hn, show (f, r).1 76 6 = nI p from h.1, if_pos (nI_le (Nat.le_refl p) (by omega))]
    show J_X11_next_146 SS 76 (f, r) = J_X11_next_146 SS 76 (e_up f 76 18 (nI p), r)
    rw [← hn, e_up_id]
  | succ k ih =>
    intro p f m h hn h1 h2 hm
    obtain ⟨m, rfl⟩ : ∃ q, m = q + 1 := ⟨m - 1, by omega⟩
    have z160 := h.2.1
    rw [L_X11_next_103, gI_ok ob11, Option.bind_some, gI_ok ob11, Option.bind_some, show (f, r).1 76 18 = nI p from hn, show (f, r).1 76 6 = nI z from h.1, c_run]
    by_cases hp : p < z
    · have tb := (h.2.2.1 p hp).1
      rw [if_neg (nI_ge hp (by omega)), r80_ hG, Option.bind_some, Option.bind_some, h.at hp, Option.bind_some, in_lett tb, Option.bind_some]
      by_cases b1 : 97 ≤ T p ∧ T p ≤ 122
      · have bl : c_lett T p = true := by unfold c_lett; simp [b1.1, b1.2]
        rw [if_pos b1, if_neg (show ¬ (1 : Int32) = 0 by decide), if_pos ⟨hp, bl⟩, gI_ok ob11, Option.bind_some, sI_ok ob11, Option.bind_some, show ((1 : Int32), (f, r)).2.1 76 18 = nI p from hn, nI_1]
        have := ih (p + 1) (e_up f 76 18 (nI (p + 1))) m (h.up (by omega)) (by rw [e_up_eq]) (by omega) (by omega) (by omega)
        rw [e_up_up] at this
        exact this
      · rw [if_neg b1, if_pos rfl, if_neg (fun y => by
          have := y.2
          unfold c_lett at this
          simp at this
          exact b1 this)]
        show J_X11_next_146 SS 76 (f, r) = J_X11_next_146 SS 76 (e_up f 76 18 (nI p), r)
        rw [← hn, e_up_id]
    · rw [if_pos (nI_le (by omega) (by omega)), if_neg (fun y => hp y.1)]
      show J_X11_next_146 SS 76 (f, r) = J_X11_next_146 SS 76 (e_up f 76 18 (nI p), r)
      rw [← hn, e_up_id]
def c_nv4 (T : Nat → Nat) (s j : Nat) : Int32 := if j ≤ 4 then c_nv T s j else 0
theorem x11_digits {T : Nat → Nat} {z s : Nat} {r : Nat → Nat → Option Nat} {f0 : Nat → Nat → Int32} (hG : GG (f0, r)) : ∀ k j f m, ND f T z → f 76 18 = nI (s + j) → f 76 21 = c_nv4 T s j → s + j ≤ z → z ≤ s + j + k → k < m → L_X11_next_230 m SS 76 (nI j) (f, r) = J_X11_next_309 SS 76 (nI (c_run (c_dig T) z k (s + j) - s)) (e_up (e_up f 76 21 (c_nv4 T s (c_run (c_dig T) z k (s + j) - s))) 76 18 (nI (c_run (c_dig T) z k (s + j))), r) := by
  intro k
  induction k with
  | zero =>
    intro j f m h hn hv h1 h2 hm
    obtain ⟨m, rfl⟩ : ∃ q, m = q + 1 := ⟨m - 1, by omega⟩
    have := h.2.1
    have e : s + j = z := by omega
    rw [L_X11_next_230, gI_ok ob11, Option.bind_some, gI_ok ob11, Option.bind_some, show (f, r).1 76 18 = nI (s + j) from hn, show (f, r).1 76 6 = nI z from h.1, if_pos (nI_le (by omega) (by omega))]
    show J_X11_next_309 SS 76 (nI j) (f, r) = J_X11_next_309 SS 76 (nI (s + j - s)) (e_up (e_up f 76 21 (c_nv4 T s (s + j - s))) 76 18 (nI (s + j)), r)
    rw [Nat.add_sub_cancel_left, ← hv, e_up_id, ← hn, e_up_id]
  | succ k ih =>
    intro j f m h hn hv h1 h2 hm
    obtain ⟨m, rfl⟩ : ∃ q, m = q + 1 := ⟨m - 1, by omega⟩
    have z160 := h.2.1
    have stay : J_X11_next_309 SS 76 (nI j) (f, r) = J_X11_next_309 SS 76 (nI (s + j - s)) (e_up (e_up f 76 21 (c_nv4 T s (s + j - s))) 76 18 (nI (s + j)), r) := by
      rw [Nat.add_sub_cancel_left, ← hv, e_up_id, ← hn, e_up_id]
    rw [L_X11_next_230, gI_ok ob11, Option.bind_some, gI_ok ob11, Option.bind_some, show (f, r).1 76 18 = nI (s + j) from hn, show (f, r).1 76 6 = nI z from h.1, c_run]
    by_cases hp : s + j < z
    · have tb := (h.2.2.1 _ hp).1
      rw [if_neg (nI_ge hp (by omega)), r80_ hG, Option.bind_some, Option.bind_some, h.at hp, Option.bind_some, in_dig tb, Option.bind_some]
      by_cases b1 : 48 ≤ T (s + j) ∧ T (s + j) ≤ 57
      · have bl : c_dig T (s + j) = true := by unfold c_dig; simp [b1.1, b1.2]
        rw [if_pos b1, if_neg (show ¬ (1 : Int32) = 0 by decide), if_pos (show s + j < z ∧ c_dig T (s + j) = true from ⟨hp, bl⟩)]
        have k4 : (4 : Int32) = nI 4 := by decide +kernel
        have go : ∀ v, v = c_nv4 T s (j + 1) → J_X11_next_290 (L_X11_next_230 m SS) SS 76 (nI j) 76 v (f, r) = J_X11_next_309 SS 76 (nI (c_run (c_dig T) z k (s + j + 1) - s)) (e_up (e_up f 76 21 (c_nv4 T s (c_run (c_dig T) z k (s + j + 1) - s))) 76 18 (nI (c_run (c_dig T) z k (s + j + 1))), r) := by
          intro v ev
          subst ev
          have := ih (j + 1) (e_up (e_up f 76 21 (c_nv4 T s (j + 1))) 76 18 (nI (s + (j + 1)))) m ((h.up (by omega)).up (by omega)) (by rw [e_up_eq]) (by rw [e_up_ne (Or.inr (by omega)), e_up_eq]) (by omega) (by omega) (by omega)
          rw [show s + (j + 1) = s + j + 1 by omega] at this
          have ex : e_up (e_up (e_up (e_up f 76 21 (c_nv4 T s (j + 1))) 76 18 (nI (s + j + 1))) 76 21 (c_nv4 T s (c_run (c_dig T) z k (s + j + 1) - s))) 76 18 (nI (c_run (c_dig T) z k (s + j + 1))) = e_up (e_up f 76 21 (c_nv4 T s (c_run (c_dig T) z k (s + j + 1) - s))) 76 18 (nI (c_run (c_dig T) z k (s + j + 1))) := by
            funext b i
            unfold e_up
            by_cases y : b = 76 ∧ i = 18
            · rw [if_pos y, if_pos y]
            · rw [if_neg y, if_neg y, if_neg y]
              by_cases y2 : b = 76 ∧ i = 21
              · rw [if_pos y2, if_pos y2]
              · rw [if_neg y2, if_neg y2, if_neg y2]
          rw [ex] at this
          rw [← this]
          unfold J_X11_next_290
          rw [sI_ok ob11, Option.bind_some, gI_ok ob11, Option.bind_some, sI_ok ob11, Option.bind_some, nI_1]
          show L_X11_next_230 m SS 76 (nI (j + 1)) (e_up (e_up f 76 21 (c_nv4 T s (j + 1))) 76 18 (e_up f 76 21 (c_nv4 T s (j + 1)) 76 18 + 1), r) = _
          rw [e_up_ne (Or.inr (by omega)), hn, nI_1]
        by_cases j4 : 4 ≤ j
        · rw [if_pos (show (4 : Int32) ≤ nI j by rw [k4]; exact nI_le j4 (by omega))]
          exact go 0 (by unfold c_nv4; rw [if_neg (by omega)])
        · rw [if_neg (show ¬ (4 : Int32) ≤ nI j by rw [k4]; exact nI_ge (by omega) (by omega)), gI_ok ob11, Option.bind_some, r80_ hG, Option.bind_some, gI_ok ob11, Option.bind_some, show ((1 : Int32), (f, r)).2.1 76 18 = nI (s + j) from hn, show ((1 : Int32), (f, r)).2.1 76 21 = c_nv4 T s j from hv, h.at hp, Option.bind_some]
          exact go _ (by unfold c_nv4; rw [if_pos (by omega), if_pos (by omega)]; rfl)
      · rw [if_neg b1, if_pos rfl, if_neg (fun y => by
          have := y.2
          unfold c_dig at this
          simp at this
          exact b1 this)]
        exact stay
    · rw [if_pos (nI_le (by omega) (by omega)), if_neg (fun y => hp y.1)]
      exact stay
theorem wt_pad : ∀ k, k < 12 → ∀ c, c < 8 → (c < c_wl k → c_wt (8 * k + c) ≠ 32) ∧ (c_wl k ≤ c → c_wt (8 * k + c) = 32) ∧ c_wt (8 * k + c) < 256 := by decide +kernel
def c_like (T : Nat → Nat) (p q k c : Nat) : Prop := c_wt (8 * k + c) = if p + c < q then T (p + c) else 32
theorem c_like_spl {T : Nat → Nat} {p q k : Nat} (hk : k < 12) (hpq : p ≤ q) (hl : ∀ j, p ≤ j → j < q → T j ≠ 32) : (q - p ≤ 8 ∧ ∀ c, c < 8 → c_like T p q k c) ↔ c_spl T p q k = true := by
  have w8 := c_wl_8 k hk
  rw [c_spl_iff]
  constructor
  · rintro ⟨h1, h2⟩
    have e : q = p + c_wl k := by
      have a := h2 (c_wl k) w8
      unfold c_like at a
      rw [(wt_pad k hk _ w8).2.1 (Nat.le_refl _)] at a
      by_cases y : p + c_wl k < q
      · rw [if_pos y] at a
        exact absurd a.symm (hl _ (by omega) y)
      · by_cases y2 : q < p + c_wl k
        · have b := h2 (q - p) (by omega)
          unfold c_like at b
          rw [if_neg (by omega)] at b
          exact absurd b ((wt_pad k hk _ (by omega)).1 (by omega))
        · omega
    refine ⟨e, fun c hc => ?_⟩
    have a := h2 c (by omega)
    unfold c_like at a
    rw [if_pos (by omega)] at a
    exact a.symm
  · rintro ⟨h1, h2⟩
    refine ⟨by omega, fun c hc => ?_⟩
    unfold c_like
    by_cases y : c < c_wl k
    · rw [if_pos (by omega), h2 c y]
    · rw [if_neg (by omega), (wt_pad k hk c hc).2.1 (by omega)]
theorem x11_word {T : Nat → Nat} {z : Nat} {r : Nat → Nat → Option Nat} {f f0 : Nat → Nat → Int32} (hG : GG (f0, r)) (h : ND f T z) {p q : Nat} (hpq : p ≤ q) (hqz : q ≤ z) (hl : ∀ j, p ≤ j → j < q → T j ≠ 32) : f_X11_wordFrom SS 76 (nI p) (nI q) (f, r) = some (nI (c_word T p q), (f, r)) := by
  have z160 := h.2.1
  have A89 : ArA 0 89 96 := by unfold ArA; decide +kernel
  have k8 : (8 : Int32) = nI 8 := by decide +kernel
  have k12 : (12 : Int32) = nI 12 := by decide +kernel
  have k32 : (32 : Int32) = nI 32 := by decide +kernel
  have no : ¬ (1 : Int32) = 0 := by decide
  unfold f_X11_wordFrom
  rw [if_pos ob11]
  have inner : ∀ (c2 : Nat → Int32 → Int32 → Int32 → e_G → Option (Int32 × e_G)) (k : Nat), k < 12 → ∀ n c m, c + n = 8 → n < m → (∀ j, j < c → c_like T p q k j) → ((∀ j, j < 8 → c_like T p q k j) → L_X11_wordFrom_26 c2 m SS 76 (nI p) (nI q) (nI k) 1 (nI c) (f, r) = some (nI k, (f, r))) ∧ (¬ (∀ j, j < 8 → c_like T p q k j) → 1 < m - n → L_X11_wordFrom_26 c2 m SS 76 (nI p) (nI q) (nI k) 1 (nI c) (f, r) = c2 76 (nI p) (nI q) (nI (k + 1)) (f, r)) := by
    intro c2 k hk n
    induction n with
    | zero =>
      intro c m h1 h2 h3
      obtain ⟨m, rfl⟩ : ∃ q, m = q + 1 := ⟨m - 1, by omega⟩
      refine ⟨fun _ => ?_, fun y => absurd (fun j hj => h3 j (by omega)) y⟩
      rw [L_X11_wordFrom_26, if_pos (by rw [k8]; exact nI_le (by omega) (by omega)), J_X11_wordFrom_88, if_neg no]
    | succ n ih =>
      intro c m h1 h2 h3
      obtain ⟨m, rfl⟩ : ∃ q, m = q + 1 := ⟨m - 1, by omega⟩
      obtain ⟨-, -, wb⟩ := wt_pad k hk c (by omega)
      have ix : (8 : Int32) * nI k + nI c = nI (8 * k + c) := by
        rw [k8, show nI 8 * nI k = nI (8 * k) from (Int32.ofNat_mul 8 k).symm, nI_add]
      have st : L_X11_wordFrom_26 c2 (m + 1) SS 76 (nI p) (nI q) (nI k) 1 (nI c) (f, r) = if c_wt (8 * k + c) = (if p + c < q then T (p + c) else 32) then L_X11_wordFrom_26 c2 m SS 76 (nI p) (nI q) (nI k) 1 (nI (c + 1)) (f, r) else L_X11_wordFrom_26 c2 m SS 76 (nI p) (nI q) (nI k) 0 (nI (c + 1)) (f, r) := by
        rw [L_X11_wordFrom_26, if_neg (by rw [k8]; exact nI_ge (by omega) (by omega)), if_neg no, r89_ hG, Option.bind_some, ix, aI_ok A89 (by omega) (by omega), Option.bind_some, show (f, r).1 89 (8 * k + c) = nI (c_wt (8 * k + c)) from h.2.2.2 _ (by omega), nI_add]
        by_cases y : p + c < q
        · have tb := (h.2.2.1 (p + c) (by omega)).1
          rw [if_neg (nI_ge y (by omega)), r80_ hG, Option.bind_some, h.at (by omega), Option.bind_some, if_pos y]
          unfold J_X11_wordFrom_72 J_X11_wordFrom_80
          by_cases w : c_wt (8 * k + c) = T (p + c)
          · rw [if_pos (by rw [w]), if_pos w, nI_1]
          · rw [if_neg (fun v => w (nI_inj (by omega) (by omega) v)), if_neg w, nI_1]
        · rw [if_pos (nI_le (by omega) (by omega)), if_neg y]
          unfold J_X11_wordFrom_72 J_X11_wordFrom_80
          by_cases w : c_wt (8 * k + c) = 32
          · rw [if_pos (by rw [w, k32]), if_pos w, nI_1]
          · rw [if_neg (fun v => w (nI_inj (by omega) (by omega) (v.trans k32))), if_neg w, nI_1]
      rw [st]
      by_cases w : c_wt (8 * k + c) = (if p + c < q then T (p + c) else 32)
      · rw [if_pos w]
        have := ih (c + 1) m (by omega) (by omega) (fun j hj => by
          by_cases y : j = c
          · rw [y]; exact w
          · exact h3 j (by omega))
        exact ⟨this.1, fun y1 y2 => this.2 y1 (by omega)⟩
      · rw [if_neg w]
        refine ⟨fun y => absurd (y c (by omega)) w, fun _ y2 => ?_⟩
        obtain ⟨m, rfl⟩ : ∃ q, m = q + 1 := ⟨m - 1, by omega⟩
        rw [L_X11_wordFrom_26, if_pos rfl]
        unfold J_X11_wordFrom_88
        rw [if_pos rfl, ite_self, nI_1]
  have outer : ∀ n k m, k + n = 12 → n < m → L_X11_wordFrom_2 m SS 76 (nI p) (nI q) (nI k) (f, r) = some (nI (c_wordF T p q n k), (f, r)) := by
    intro n
    induction n with
    | zero =>
      intro k m h1 h2
      obtain ⟨m, rfl⟩ : ∃ q, m = q + 1 := ⟨m - 1, by omega⟩
      have : k = 12 := by omega
      subst this
      rw [L_X11_wordFrom_2, if_pos (by rw [k12]; exact nI_le (by omega) (by omega)), k12]
      rfl
    | succ n ih =>
      intro k m h1 h2
      obtain ⟨m, rfl⟩ : ∃ q, m = q + 1 := ⟨m - 1, by omega⟩
      have eqs := c_like_spl (T := T) (p := p) (q := q) (k := k) (by omega) hpq hl
      rw [L_X11_wordFrom_2, if_neg (by rw [k12]; exact nI_ge (by omega) (by omega)), show nI q - nI p = nI (q - p) from (Int32.ofNat_sub _ _ hpq).symm, c_wordF]
      have nx := ih (k + 1) m (by omega) (by omega)
      by_cases y : 8 < q - p
      · rw [if_pos (by rw [k8]; exact nI_lt y (by omega)), if_neg (fun w => by have := (eqs.mpr w).1; omega)]
        have e50 : (50000 : Nat) = 49999 + 1 := rfl
        unfold J_X11_wordFrom_21
        rw [e50, L_X11_wordFrom_26, if_neg (by decide), if_pos rfl]
        unfold J_X11_wordFrom_88
        rw [if_pos rfl, nI_1]
        exact nx
      · rw [if_neg (by rw [k8]; exact nI_nlt (by omega) (by omega))]
        unfold J_X11_wordFrom_21
        have inn := inner (L_X11_wordFrom_2 m SS) k (by omega) 8 0 50000 (by omega) (by omega) (fun j hj => by omega)
        rw [nI_0] at inn
        by_cases w : c_spl T p q k = true
        · rw [if_pos w]
          exact inn.1 (eqs.mpr w).2
        · rw [if_neg w, inn.2 (fun v => w (eqs.mp ⟨by omega, v⟩)) (by omega)]
          exact nx
  have := outer 12 0 50000 (by omega) (by omega)
  rw [nI_0] at this
  exact this
