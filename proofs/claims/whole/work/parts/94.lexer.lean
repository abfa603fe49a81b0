/-! the lexer: pure, in the class, in the reference -/
def c_run (P : Nat → Bool) (z : Nat) : Nat → Nat → Nat
  | 0, p => p
  | k + 1, p => if p < z ∧ P p = true then c_run P z k (p + 1) else p
theorem c_run_le (P : Nat → Bool) (z : Nat) : ∀ k p, p ≤ z → p ≤ c_run P z k p ∧ c_run P z k p ≤ z := by
  intro k
  induction k with
  | zero => intro p h; exact ⟨Nat.le_refl p, h⟩
  | succ k ih =>
    intro p h
    rw [c_run]
    split
    next q => have := ih (p + 1) (by omega); exact ⟨by omega, this.2⟩
    next => exact ⟨Nat.le_refl p, h⟩
theorem c_run_all (P : Nat → Bool) (z : Nat) : ∀ k p q, p ≤ q → q < c_run P z k p → P q = true := by
  intro k
  induction k with
  | zero => intro p q h1 h2; have h2 : q < p := h2; omega
  | succ k ih =>
    intro p q h1 h2
    rw [c_run] at h2
    split at h2
    next y =>
      by_cases e : q = p
      · rw [e]; exact y.2
      · exact ih (p + 1) q (by omega) h2
    next => omega
theorem c_run_end (P : Nat → Bool) (z : Nat) : ∀ k p, p ≤ z → z ≤ p + k → c_run P z k p < z → P (c_run P z k p) = false := by
  intro k
  induction k with
  | zero => intro p h1 h2 h3; have h3 : p < z := h3; omega
  | succ k ih =>
    intro p h1 h2 h3
    rw [c_run] at h3 ⊢
    split at h3
    next y => rw [if_pos y]; exact ih (p + 1) (by omega) (by omega) h3
    next y =>
      rw [if_neg y]
      cases e : P p with
      | false => rfl
      | true => exact absurd ⟨h3, e⟩ y
def c_blank (T : Nat → Nat) (p : Nat) : Bool := T p == 32 || T p == 10
def c_lett (T : Nat → Nat) (p : Nat) : Bool := decide (97 ≤ T p) && decide (T p ≤ 122)
def c_dig (T : Nat → Nat) (p : Nat) : Bool := decide (48 ≤ T p) && decide (T p ≤ 57)
/-- the number that so many digits tell, wrapping -/
def c_nv (T : Nat → Nat) (p : Nat) : Nat → Int32
  | 0 => 0
  | j + 1 => (10 : Int32) * c_nv T p j + nI (T (p + j)) - 48
/-- the word k of the reference, without its blanks -/
def c_wl (k : Nat) : Nat := [5, 5, 5, 4, 6, 6, 3, 7, 4, 2, 3, 3].getD k 0
def c_spl (T : Nat → Nat) (p q k : Nat) : Bool := decide (q = p + c_wl k) && (List.range (c_wl k)).all (fun c => T (p + c) == c_wt (8 * k + c))
theorem c_spl_iff {T : Nat → Nat} {p q k : Nat} : c_spl T p q k = true ↔ q = p + c_wl k ∧ ∀ c, c < c_wl k → T (p + c) = c_wt (8 * k + c) := by
  unfold c_spl
  simp [List.all_eq_true]
/-- which word stands there; 12: none -/
def c_wordF (T : Nat → Nat) (p q : Nat) : Nat → Nat → Nat
  | 0, k => k
  | n + 1, k => if c_spl T p q k = true then k else c_wordF T p q n (k + 1)
def c_word (T : Nat → Nat) (p q : Nat) : Nat := c_wordF T p q 12 0
theorem c_wordF_sp {T : Nat → Nat} {p q : Nat} : ∀ n k, (c_wordF T p q n k = k + n ∧ ∀ j, k ≤ j → j < k + n → c_spl T p q j = false) ∨ (c_wordF T p q n k < k + n ∧ k ≤ c_wordF T p q n k ∧ c_spl T p q (c_wordF T p q n k) = true ∧ ∀ j, k ≤ j → j < c_wordF T p q n k → c_spl T p q j = false) := by
  intro n
  induction n with
  | zero => intro k; exact Or.inl ⟨rfl, fun j h1 h2 => by omega⟩
  | succ n ih =>
    intro k
    rw [c_wordF]
    by_cases e : c_spl T p q k = true
    · rw [if_pos e]
      exact Or.inr ⟨by omega, Nat.le_refl k, e, fun j h1 h2 => by omega⟩
    · rw [if_neg e]
      have e' : c_spl T p q k = false := by cases h : c_spl T p q k with | false => rfl | true => exact absurd h e
      rcases ih (k + 1) with ⟨h1, h2⟩ | ⟨h1, h2, h3, h4⟩
      · refine Or.inl ⟨by omega, fun j j1 j2 => ?_⟩
        by_cases y : j = k
        · rw [y]; exact e'
        · exact h2 j (by omega) (by omega)
      · refine Or.inr ⟨by omega, by omega, h3, fun j j1 j2 => ?_⟩
        by_cases y : j = k
        · rw [y]; exact e'
        · exact h4 j (by omega) j2
theorem c_words_apart : ∀ i, i < 12 → ∀ j, j < 12 → c_wl i = c_wl j → (∀ c, c < 8 → c < c_wl i → c_wt (8 * i + c) = c_wt (8 * j + c)) → i = j := by decide +kernel
theorem c_wl_8 : ∀ i, i < 12 → c_wl i < 8 := by decide +kernel
theorem c_word_spl {T : Nat → Nat} {p q k : Nat} (hk : k < 12) : c_spl T p q k = true ↔ c_word T p q = k := by
  unfold c_word
  rcases c_wordF_sp (T := T) (p := p) (q := q) 12 0 with ⟨h1, h2⟩ | ⟨h1, h2, h3, h4⟩
  · rw [h1]
    constructor
    · intro z; rw [h2 k (by omega) (by omega)] at z; exact absurd z (by decide)
    · intro z; omega
  · constructor
    · intro z
      have a := c_spl_iff.mp h3
      have b := c_spl_iff.mp z
      exact c_words_apart _ (by omega) k hk (by omega) (fun c _ hc => by rw [← a.2 c hc, ← b.2 c (by omega)])
    · intro z; rw [← z]; exact h3
theorem c_word_le (T : Nat → Nat) (p q : Nat) : c_word T p q ≤ 12 := by
  unfold c_word
  rcases c_wordF_sp (T := T) (p := p) (q := q) 12 0 with ⟨h1, h2⟩ | ⟨h1, h2, h3, h4⟩ <;> omega
/-- the token of a word, of a sign -/
def c_wtok (w : Nat) : Nat := if w < 3 then 15 + w else if w < 9 then 3 else if w = 9 then 13 else if w = 10 then 12 else if w = 11 then 14 else 1
def c_stok (b : Nat) : Nat := if b = 40 then 4 else if b = 41 then 5 else if b = 59 then 6 else if b = 43 then 7 else if b = 45 then 8 else if b = 42 then 9 else if b = 60 then 10 else if b = 61 then 11 else 1
/-- the token that stands from a place on: which, where, its value, what follows -/
def lx_ (T : Nat → Nat) (z p : Nat) : Nat × Nat × Int32 × Nat :=
  let s := c_run (c_blank T) z (z - p) p
  if s < z then
    (if c_lett T s = true then (c_wtok (c_word T s (c_run (c_lett T) z (z - s) s)), s, nI (c_word T s (c_run (c_lett T) z (z - s) s) - 3), c_run (c_lett T) z (z - s) s)
    else if c_dig T s = true then (if c_run (c_dig T) z (z - s) s - s ≤ 4 then 2 else 1, s, c_nv T s (c_run (c_dig T) z (z - s) s - s), c_run (c_dig T) z (z - s) s)
    else (c_stok (T s), s, 0, s + 1))
  else (0, s, 0, s)
def c_cc (t : Nat) : Int32 := if t = 0 then 1000 else if t = 1 then 1001 else if t = 2 then 1002 else if t = 3 then 1003 else if t = 4 then 40 else if t = 5 then 41 else if t = 6 then 59 else if t = 7 then 43 else if t = 8 then 45 else if t = 9 then 42 else if t = 10 then 60 else if t = 11 then 61 else if t = 12 then 1010 else if t = 13 then 1011 else if t = 14 then 1012 else if t = 15 then 1020 else if t = 16 then 1021 else 1022
def c_rc (t : Nat) : Int32 := if t = 0 then 0 else if t = 1 then -1 else if t = 2 then 1 else if t = 3 then 2 else if t = 4 then 40 else if t = 5 then 41 else if t = 6 then 59 else if t = 7 then 43 else if t = 8 then 45 else if t = 9 then 42 else if t = 10 then 60 else if t = 11 then 61 else if t = 12 then 5 else if t = 13 then 4 else if t = 14 then 6 else 3
/-- the tape, in the class and in the reference -/
def TP (f : Nat → Nat → Int32) (a : Nat) (T : Nat → Nat) (z : Nat) : Prop := ∀ k, k < z → T k < 256 ∧ f a k = nI (T k)
theorem x5_lett {b : Nat} (hb : b < 256) (g : e_G) : f_X5_isLetter SS (nI b) g = some (if 97 ≤ b ∧ b ≤ 122 then 1 else 0, g) := by
  have k1 : (97 : Int32) = nI 97 := by decide +kernel
  have k2 : (122 : Int32) = nI 122 := by decide +kernel
  unfold f_X5_isLetter
  rw [k1, k2]
  by_cases h1 : b < 97
  · rw [if_pos (nI_lt h1 (by omega)), if_neg (by omega)]
  · rw [if_neg (nI_nlt (by omega) (by omega))]
    by_cases h2 : 122 < b
    · rw [if_pos (nI_lt h2 (by omega)), if_neg (by omega)]
    · rw [if_neg (nI_nlt (by omega) (by omega)), if_pos (by omega)]
theorem x5_dig {b : Nat} (hb : b < 256) (g : e_G) : f_X5_isDigit SS (nI b) g = some (if 48 ≤ b ∧ b ≤ 57 then 1 else 0, g) := by
  have k1 : (48 : Int32) = nI 48 := by decide +kernel
  have k2 : (57 : Int32) = nI 57 := by decide +kernel
  unfold f_X5_isDigit
  rw [k1, k2]
  by_cases h1 : b < 48
  · rw [if_pos (nI_lt h1 (by omega)), if_neg (by omega)]
  · rw [if_neg (nI_nlt (by omega) (by omega))]
    by_cases h2 : 57 < b
    · rw [if_pos (nI_lt h2 (by omega)), if_neg (by omega)]
    · rw [if_neg (nI_nlt (by omega) (by omega)), if_pos (by omega)]
theorem s_in_n {b lo hi : Nat} {L H : Int32} (hL : L = nI lo) (hH : H = nI hi) (hb : b < 2 ^ 31) (h1 : lo < 2 ^ 31) (h2 : hi < 2 ^ 31) : s_in (nI b) L H = if lo ≤ b ∧ b ≤ hi then 1 else 0 := by
  unfold s_in
  rw [hL, hH]
  by_cases q1 : b < lo
  · rw [if_pos (nI_lt q1 h1), if_neg (by omega)]
  · rw [if_neg (nI_nlt (by omega) (by omega))]
    by_cases q2 : hi < b
    · rw [if_pos (nI_lt q2 (by omega)), if_neg (by omega)]
    · rw [if_neg (nI_nlt (by omega) (by omega)), if_pos (by omega)]
/-- the class's reader, ready to read on -/
def RD (f : Nat → Nat → Int32) (r : Nat → Nat → Option Nat) (T : Nat → Nat) (z : Nat) : Prop := r 3 0 = some 4 ∧ f 3 2 = nI z ∧ z ≤ 160 ∧ TP f 4 T z
theorem RD.r0 {f : Nat → Nat → Int32} {r : Nat → Nat → Option Nat} {T : Nat → Nat} {z : Nat} (h : RD f r T z) : ∀ f, e_gR SS (f, r) 5 3 0 = some 4 := fun f => by
  unfold e_gR
  rw [if_pos ob5]
  exact h.1
theorem RD.up {f : Nat → Nat → Int32} {r : Nat → Nat → Option Nat} {T : Nat → Nat} {z : Nat} (h : RD f r T z) {k : Nat} {v : Int32} (hk : k ≠ 2) : RD (e_up f 3 k v) r T z := ⟨h.1, by rw [e_up_ne (Or.inr (by omega))]; exact h.2.1, h.2.2.1, fun j hj => by rw [e_up_row (by omega)]; exact h.2.2.2 j hj⟩
theorem RD.at {f : Nat → Nat → Int32} {r : Nat → Nat → Option Nat} {T : Nat → Nat} {z : Nat} (h : RD f r T z) {p : Nat} (hp : p < z) : e_aI SS (f, r) 0 4 (nI p) = some (nI (T p)) := by
  have := h.2.2.1
  rw [aI_ok arC.2.2.1 (by omega) (by omega)]
  exact congrArg some (h.2.2.2 p hp).2
/-- class: blanks are passed over -/
theorem x5_blank {T : Nat → Nat} {z : Nat} {r : Nat → Nat → Option Nat} : ∀ k p f m, RD f r T z → f 3 3 = nI p → p ≤ z → z ≤ p + k → k < m → L_X5_step_0 m SS 3 (f, r) = J_X5_step_52 SS 3 (e_up f 3 3 (nI (c_run (c_blank T) z k p)), r) := by
  intro k
  induction k with
  | zero =>
    intro p f m h hn h1 h2 hm
    obtain ⟨m, rfl⟩ : ∃ q, m = q + 1 := ⟨m - 1, by omega⟩
    have := h.2.2.1
    have : p = z := by omega
    subst this
    rw [L_X5_step_0, gI_ok ob5, Option.bind_some, gI_ok ob5, Option.bind_some, show (f, r).1 3 3 = nI p from hn, show (f, r).1 3 2 = nI p from h.2.1, if_pos (nI_le (Nat.le_refl p) (by omega))]
    show J_X5_step_52 SS 3 (f, r) = J_X5_step_52 SS 3 (e_up f 3 3 (nI p), r)
    rw [← hn, e_up_id]
  | succ k ih =>
    intro p f m h hn h1 h2 hm
    obtain ⟨m, rfl⟩ : ∃ q, m = q + 1 := ⟨m - 1, by omega⟩
    have z160 := h.2.2.1
    rw [L_X5_step_0, gI_ok ob5, Option.bind_some, gI_ok ob5, Option.bind_some, show (f, r).1 3 3 = nI p from hn, show (f, r).1 3 2 = nI z from h.2.1, c_run]
    by_cases hp : p < z
    · have k32 : (32 : Int32) = nI 32 := by decide +kernel
      have k10 : (10 : Int32) = nI 10 := by decide +kernel
      have tb := (h.2.2.2 p hp).1
      rw [if_neg (nI_ge hp (by omega)), h.r0, Option.bind_some, Option.bind_some, h.at hp, Option.bind_some]
      have go : ∀ (_ : c_blank T p = true), J_X5_step_39 (L_X5_step_0 m SS) SS 3 (f, r) = J_X5_step_52 SS 3 (e_up f 3 3 (nI (c_run (c_blank T) z k (p + 1))), r) := by
        intro _
        unfold J_X5_step_39
        rw [gI_ok ob5, Option.bind_some, sI_ok ob5, Option.bind_some, show (f, r).1 3 3 = nI p from hn, nI_1]
        have := ih (p + 1) (e_up f 3 3 (nI (p + 1))) m (h.up (by omega)) (by rw [e_up_eq]) (by omega) (by omega) (by omega)
        rw [e_up_up] at this
        exact this
      by_cases b1 : T p = 32
      · have bl : c_blank T p = true := by unfold c_blank; rw [b1]; rfl
        rw [if_pos (by rw [k32, b1]), if_pos ⟨hp, bl⟩]
        exact go bl
      · rw [if_neg (fun y => b1 (nI_inj (by omega) (by omega) (y.trans k32))), Option.bind_some, Option.bind_some, h.at hp, Option.bind_some]
        by_cases b2 : T p = 10
        · have bl : c_blank T p = true := by unfold c_blank; rw [b2]; rfl
          rw [if_pos (by rw [k10, b2]), if_pos ⟨hp, bl⟩]
          exact go bl
        · rw [if_neg (fun y => b2 (nI_inj (by omega) (by omega) (y.trans k10))), if_neg (fun y => by
            have := y.2
            unfold c_blank at this
            simp [b1, b2] at this)]
          show J_X5_step_52 SS 3 (f, r) = J_X5_step_52 SS 3 (e_up f 3 3 (nI p), r)
          rw [← hn, e_up_id]
    · rw [if_pos (nI_le (by omega) (by omega)), if_neg (fun y => hp y.1)]
      show J_X5_step_52 SS 3 (f, r) = J_X5_step_52 SS 3 (e_up f 3 3 (nI p), r)
      rw [← hn, e_up_id]
/-- class: letters of a word -/
theorem x5_letters {T : Nat → Nat} {z : Nat} {r : Nat → Nat → Option Nat} : ∀ k p f m, RD f r T z → f 3 3 = nI p → p ≤ z → z ≤ p + k → k < m → L_X5_takeWord_0 m SS 3 (f, r) = J_X5_takeWord_39 SS 3 (e_up f 3 3 (nI (c_run (c_lett T) z k p)), r) := by
  intro k
  induction k with
  | zero =>
    intro p f m h hn h1 h2 hm
    obtain ⟨m, rfl⟩ : ∃ q, m = q + 1 := ⟨m - 1, by omega⟩
    have := h.2.2.1
    have : p = z := by omega
    subst this
    rw [L_X5_takeWord_0, gI_ok ob5, Option.bind_some, gI_ok ob5, Option.bind_some, show (f, r).1 3 3 = nI p from hn, show (f, r).1 3 2 = nI p from h.2.1, if_pos (nI_le (Nat.le_refl p) (by omega))]
    show J_X5_takeWord_39 SS 3 (f, r) = J_X5_takeWord_39 SS 3 (e_up f 3 3 (nI p), r)
    rw [← hn, e_up_id]
  | succ k ih =>
    intro p f m h hn h1 h2 hm
    obtain ⟨m, rfl⟩ : ∃ q, m = q + 1 := ⟨m - 1, by omega⟩
    have z160 := h.2.2.1
    rw [L_X5_takeWord_0, gI_ok ob5, Option.bind_some, gI_ok ob5, Option.bind_some, show (f, r).1 3 3 = nI p from hn, show (f, r).1 3 2 = nI z from h.2.1, c_run]
    by_cases hp : p < z
    · have tb := (h.2.2.2 p hp).1
      rw [if_neg (nI_ge hp (by omega)), h.r0, Option.bind_some, Option.bind_some, h.at hp, Option.bind_some, x5_lett tb, Option.bind_some]
      by_cases b1 : 97 ≤ T p ∧ T p ≤ 122
      · have bl : c_lett T p = true := by unfold c_lett; simp [b1.1, b1.2]
        rw [if_pos b1, if_neg (show ¬ (1 : Int32) = 0 by decide), if_pos ⟨hp, bl⟩, gI_ok ob5, Option.bind_some, sI_ok ob5, Option.bind_some, show ((1 : Int32), (f, r)).2.1 3 3 = nI p from hn, nI_1]
        have := ih (p + 1) (e_up f 3 3 (nI (p + 1))) m (h.up (by omega)) (by rw [e_up_eq]) (by omega) (by omega) (by omega)
        rw [e_up_up] at this
        exact this
      · rw [if_neg b1, if_pos rfl, if_neg (fun y => by
          have := y.2
          unfold c_lett at this
          simp at this
          exact b1 this)]
        show J_X5_takeWord_39 SS 3 (f, r) = J_X5_takeWord_39 SS 3 (e_up f 3 3 (nI p), r)
        rw [← hn, e_up_id]
    · rw [if_pos (nI_le (by omega) (by omega)), if_neg (fun y => hp y.1)]
      show J_X5_takeWord_39 SS 3 (f, r) = J_X5_takeWord_39 SS 3 (e_up f 3 3 (nI p), r)
      rw [← hn, e_up_id]
/-- class: digits of a number; j are read -/
theorem x5_digits {T : Nat → Nat} {z s : Nat} {r : Nat → Nat → Option Nat} : ∀ k j f m, RD f r T z → f 3 3 = nI (s + j) → f 3 6 = c_nv T s j → s + j ≤ z → z ≤ s + j + k → k < m → L_X5_takeNumber_5 m SS 3 (f, r) = J_X5_takeNumber_68 SS 3 (e_up (e_up f 3 6 (c_nv T s (c_run (c_dig T) z k (s + j) - s))) 3 3 (nI (c_run (c_dig T) z k (s + j))), r) := by
  intro k
  induction k with
  | zero =>
    intro j f m h hn hv h1 h2 hm
    obtain ⟨m, rfl⟩ : ∃ q, m = q + 1 := ⟨m - 1, by omega⟩
    have := h.2.2.1
    have e : s + j = z := by omega
    rw [L_X5_takeNumber_5, gI_ok ob5, Option.bind_some, gI_ok ob5, Option.bind_some, show (f, r).1 3 3 = nI (s + j) from hn, show (f, r).1 3 2 = nI z from h.2.1, if_pos (nI_le (by omega) (by omega))]
    show J_X5_takeNumber_68 SS 3 (f, r) = J_X5_takeNumber_68 SS 3 (e_up (e_up f 3 6 (c_nv T s (s + j - s))) 3 3 (nI (s + j)), r)
    rw [Nat.add_sub_cancel_left, ← hv, e_up_id, ← hn, e_up_id]
  | succ k ih =>
    intro j f m h hn hv h1 h2 hm
    obtain ⟨m, rfl⟩ : ∃ q, m = q + 1 := ⟨m - 1, by omega⟩
    have z160 := h.2.2.1
    have stay : J_X5_takeNumber_68 SS 3 (f, r) = J_X5_takeNumber_68 SS 3 (e_up (e_up f 3 6 (c_nv T s (s + j - s))) 3 3 (nI (s + j)), r) := by
      rw [Nat.add_sub_cancel_left, ← hv, e_up_id, ← hn, e_up_id]
    rw [L_X5_takeNumber_5, gI_ok ob5, Option.bind_some, gI_ok ob5, Option.bind_some, show (f, r).1 3 3 = nI (s + j) from hn, show (f, r).1 3 2 = nI z from h.2.1, c_run]
    by_cases hp : s + j < z
    · have tb := (h.2.2.2 _ hp).1
      rw [if_neg (nI_ge hp (by omega)), h.r0, Option.bind_some, Option.bind_some, h.at hp, Option.bind_some, x5_dig tb, Option.bind_some]
      by_cases b1 : 48 ≤ T (s + j) ∧ T (s + j) ≤ 57
      · have bl : c_dig T (s + j) = true := by unfold c_dig; simp [b1.1, b1.2]
        rw [if_pos b1, if_neg (show ¬ (1 : Int32) = 0 by decide), if_pos ⟨hp, bl⟩, gI_ok ob5, Option.bind_some, h.r0, Option.bind_some, gI_ok ob5, Option.bind_some, show ((1 : Int32), (f, r)).2.1 3 3 = nI (s + j) from hn, show ((1 : Int32), (f, r)).2.1 3 6 = c_nv T s j from hv, h.at hp, Option.bind_some, sI_ok ob5, Option.bind_some, gI_ok ob5, Option.bind_some, sI_ok ob5, Option.bind_some]
        have := ih (j + 1) (e_up (e_up f 3 6 (c_nv T s (j + 1))) 3 3 (nI (s + (j + 1)))) m ((h.up (by omega)).up (by omega)) (by rw [e_up_eq]) (by rw [e_up_ne (Or.inr (by omega)), e_up_eq]) (by omega) (by omega) (by omega)
        rw [show s + (j + 1) = s + j + 1 by omega] at this
        have ex : e_up (e_up (e_up (e_up f 3 6 (c_nv T s (j + 1))) 3 3 (nI (s + j + 1))) 3 6 (c_nv T s (c_run (c_dig T) z k (s + j + 1) - s))) 3 3 (nI (c_run (c_dig T) z k (s + j + 1))) = e_up (e_up f 3 6 (c_nv T s (c_run (c_dig T) z k (s + j + 1) - s))) 3 3 (nI (c_run (c_dig T) z k (s + j + 1))) := by
          funext b i
          unfold e_up
          by_cases y : b = 3 ∧ i = 3
          · rw [if_pos y, if_pos y]
          · rw [if_neg y, if_neg y, if_neg y]
            by_cases y2 : b = 3 ∧ i = 6
            · rw [if_pos y2, if_pos y2]
            · rw [if_neg y2, if_neg y2, if_neg y2]
        rw [ex] at this
        rw [← this]
        show L_X5_takeNumber_5 m SS 3 (e_up (e_up f 3 6 (c_nv T s (j + 1))) 3 3 (e_up f 3 6 (c_nv T s (j + 1)) 3 3 + 1), r) = _
        rw [e_up_ne (Or.inr (by omega)), hn, nI_1]
      · rw [if_neg b1, if_pos rfl, if_neg (fun y => by
          have := y.2
          unfold c_dig at this
          simp at this
          exact b1 this)]
        exact stay
    · rw [if_pos (nI_le (by omega) (by omega)), if_neg (fun y => hp y.1)]
      exact stay
theorem str_ok : ∀ i, i < 13 → f_str_length (1000000 + i) = some (nI (e_len.getD i 0)) ∧ ∀ c, c < 8 → i ≠ 0 → c < e_len.getD i 0 → f_str_charAt (1000000 + i) (nI c) = some ((e_byt.getD i []).getD c 0) := by decide +kernel
/-- the class's string i is the reference's word -/
def c_sw (i : Nat) : Nat := [0, 3, 4, 5, 6, 7, 8, 0, 1, 2, 10, 9, 11].getD i 0
theorem str_w : ∀ i, i < 13 → i ≠ 0 → e_len.getD i 0 = c_wl (c_sw i) ∧ c_sw i < 12 ∧ ∀ c, c < 8 → c < c_wl (c_sw i) → (e_byt.getD i []).getD c 0 = nI (c_wt (8 * c_sw i + c)) ∧ c_wt (8 * c_sw i + c) < 256 := by decide +kernel
theorem x5_spells {T : Nat → Nat} {z : Nat} {f : Nat → Nat → Int32} {r : Nat → Nat → Option Nat} (h : RD f r T z) {p q : Nat} (hp : f 3 5 = nI p) (hq : f 3 3 = nI q) (hpq : p ≤ q) (hqz : q ≤ z) {i : Nat} (hi : i < 13) (hi0 : i ≠ 0) : f_X5_spells SS 3 (1000000 + i) (f, r) = some (if c_word T p q = c_sw i then 1 else 0, (f, r)) := by
  obtain ⟨s1, s2⟩ := str_ok i hi
  obtain ⟨w1, w2, w3⟩ := str_w i hi hi0
  have w8 := c_wl_8 _ w2
  have z160 := h.2.2.1
  unfold f_X5_spells
  rw [if_pos ob5, gI_ok ob5, Option.bind_some, gI_ok ob5, Option.bind_some, s1, Option.bind_some, show (f, r).1 3 3 = nI q from hq, show (f, r).1 3 5 = nI p from hp, w1, show nI q - nI p = nI (q - p) from (Int32.ofNat_sub _ _ hpq).symm]
  by_cases e : q = p + c_wl (c_sw i)
  · rw [if_pos (by congr 1; omega)]
    have key : ∀ k c m, c + k = c_wl (c_sw i) → k < m → (∀ j, j < c → T (p + j) = c_wt (8 * c_sw i + j)) → L_X5_spells_20 m SS 3 (1000000 + i) (nI c) (f, r) = some (if c_word T p q = c_sw i then 1 else 0, (f, r)) := by
      intro k
      induction k with
      | zero =>
        intro c m h1 h2 h3
        obtain ⟨m, rfl⟩ : ∃ q, m = q + 1 := ⟨m - 1, by omega⟩
        rw [L_X5_spells_20, s1, Option.bind_some, w1, if_pos (nI_le (by omega) (by omega)), if_pos ((c_word_spl w2).mp (c_spl_iff.mpr ⟨e, fun j hj => h3 j (by omega)⟩))]
      | succ k ih =>
        intro c m h1 h2 h3
        obtain ⟨m, rfl⟩ : ∃ q, m = q + 1 := ⟨m - 1, by omega⟩
        obtain ⟨y1, y2⟩ := w3 c (by omega) (by omega)
        have tb := (h.2.2.2 (p + c) (by omega)).1
        rw [L_X5_spells_20, s1, Option.bind_some, w1, if_neg (nI_ge (by omega) (by omega)), h.r0, Option.bind_some, gI_ok ob5, Option.bind_some, show (f, r).1 3 5 = nI p from hp, nI_add, h.at (by omega), Option.bind_some, s2 c (by omega) hi0 (by rw [w1]; omega), Option.bind_some, y1]
        by_cases y : T (p + c) = c_wt (8 * c_sw i + c)
        · rw [if_pos (by rw [y]), nI_1]
          exact ih (c + 1) m (by omega) (by omega) (fun j hj => by
            by_cases y3 : j = c
            · rw [y3]; exact y
            · exact h3 j (by omega))
        · rw [if_neg (fun y3 => y (nI_inj (by omega) (by omega) y3)), if_neg (fun y3 => y ((c_spl_iff.mp ((c_word_spl w2).mpr y3)).2 c (by omega)))]
    have := key (c_wl (c_sw i)) 0 50000 (by omega) (by omega) (fun j hj => by omega)
    rw [nI_0] at this
    exact this
  · rw [if_neg (fun y => e (by have := nI_inj (by omega) (by omega) y; omega)), if_neg (fun y => e (c_spl_iff.mp ((c_word_spl w2).mpr y)).1)]
