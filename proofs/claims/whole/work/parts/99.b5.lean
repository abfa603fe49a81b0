/-! the class reads a part, as the pure readers do -/
def RdOK (t : Nat) (T : Nat → Nat) (z : Nat) (r : Nat → Nat → Option Nat) (rdr : e_S → Nat → Int32 → e_G → Option e_G) (l : Nat) (P : PSt → PSt) : Prop := ∀ f s, CL t T z r f s → tot_ s ≤ 160 → ∃ f', rdr SS 3 (nI l) (f, r) = some (f', r) ∧ CL t T z r f' (P s) ∧ KR t f f' ∧ tot_ (P s) ≤ tot_ s
theorem cl_expect {t : Nat} {T : Nat → Nat} {z : Nat} {r : Nat → Nat → Option Nat} {f : Nat → Nat → Int32} {s : PSt} (ht : t < 6) (h : CL t T z r f s) {k : Nat} (h2 : 2 ≤ k) (hk : k < 18) {c : Int32} (hc : c = c_cc k) : ∃ f', f_X5_expect SS 3 c (f, r) = some (f', r) ∧ CL t T z r f' (p_expect k s) ∧ KR t f f' ∧ tot_ (p_expect k s) ≤ tot_ s := by
  unfold f_X5_expect p_expect
  rw [if_pos ob5, gI_ok ob5, Option.bind_some]
  by_cases y : p_tok s = k
  · obtain ⟨f', a1, a2, a3, a4⟩ := cl_step ht h (by omega)
    rw [if_pos (show (f, r).1 3 4 = c from (h.is hk hc).mpr y), if_pos y, a1]
    exact ⟨f', rfl, a2, a3, by omega⟩
  · obtain ⟨f', a1, a2, a3⟩ := cl_fail ht h
    rw [if_neg (show ¬ (f, r).1 3 4 = c from fun e => y ((h.is hk hc).mp e)), if_neg y, a1]
    exact ⟨f', rfl, a2, a3, tot_fail s⟩
/-- a step, a reader, a sign put behind -/
theorem cl_bin {t : Nat} {T : Nat → Nat} {z : Nat} {r : Nat → Nat → Option Nat} {f : Nat → Nat → Int32} {s : PSt} (hT : RT t r) {rdr : e_S → Nat → Int32 → e_G → Option e_G} {l : Nat} {q : PSt → PSt} (hq : RdOK t T z r rdr l q) (h : CL t T z r f s) (hs : tot_ s ≤ 160) (hk : 2 ≤ p_tok s) {op : Nat} {c lc : Int32} (hc : c = nI op) (hl : lc = nI l) : ∃ f', (∀ K : e_G → Option e_G, ((f_X5_step SS 3 (f, r)).bind fun q4 => (rdr SS 3 lc q4).bind fun q6 => (e_gR SS q6 5 3 1).bind fun v7 => (f_X9_add SS v7 c (0 : Int32) q6).bind K) = K (f', r)) ∧ CL t T z r f' (p_add op 0 (q (p_step s))) ∧ KR t f f' ∧ tot_ (p_add op 0 (q (p_step s))) ≤ tot_ s := by
  subst hl
  obtain ⟨f1, a1, a2, a3, a4⟩ := cl_step hT.1 h hk
  obtain ⟨f2, b1, b2, b3, b4⟩ := hq f1 _ a2 (by omega)
  obtain ⟨f3, c1, c2, c3⟩ := cl_add (v := 0) hT b2 (by omega) hc
  have := tot_add (q (p_step s)) op 0
  refine ⟨f3, fun K => ?_, c2, (a3.trans b3).trans c3, by omega⟩
  rw [a1, Option.bind_some, b1, Option.bind_some, hT.r1, Option.bind_some, c1, Option.bind_some]
theorem op6 : ∀ k, k < 18 → p_op 6 k = if k = 9 then 4 else 0 := by decide
theorem op5 : ∀ k, k < 18 → p_op 5 k = if k = 7 then 5 else if k = 8 then 6 else 0 := by decide
theorem op2 : ∀ k, k < 18 → p_op 2 k = if k = 12 then 9 else 0 := by decide
theorem op1 : ∀ k, k < 18 → p_op 1 k = if k = 13 then 10 else 0 := by decide
theorem cl_loopTerm {t : Nat} {T : Nat → Nat} {z : Nat} {r : Nat → Nat → Option Nat} (hT : RT t r) {rdr : e_S → Nat → Int32 → e_G → Option e_G} {l : Nat} {q : PSt → PSt} (hq : RdOK t T z r rdr l q) : ∀ n j m f s, j + n = 160 → n < m → CL t T z r f s → tot_ s ≤ 160 → ∃ f', L_X5_readTerm_7 rdr m SS 3 (nI l) (nI j) (f, r) = some (f', r) ∧ CL t T z r f' (p_loop 6 q n s) ∧ KR t f f' ∧ tot_ (p_loop 6 q n s) ≤ tot_ s := by
  intro n
  have k160 : (160 : Int32) = nI 160 := by decide +kernel
  induction n with
  | zero =>
    intro j m f s h1 h2 h h3
    obtain ⟨m, rfl⟩ : ∃ q, m = q + 1 := ⟨m - 1, by omega⟩
    rw [L_X5_readTerm_7, if_pos (by rw [k160]; exact nI_le (by omega) (by omega))]
    exact ⟨f, rfl, h, fun _ _ _ _ _ => rfl, Nat.le_refl _⟩
  | succ n ih =>
    intro j m f s h1 h2 h h3
    obtain ⟨m, rfl⟩ : ∃ q, m = q + 1 := ⟨m - 1, by omega⟩
    rw [L_X5_readTerm_7, if_neg (by rw [k160]; exact nI_ge (by omega) (by omega)), gI_ok ob5, Option.bind_some, p_loop, op6 _ (by have := h.tok.2; omega)]
    by_cases y : p_tok s = 9
    · obtain ⟨f1, a1, a2, a3, a4⟩ := cl_bin (op := 4) hT hq h h3 (by omega) rfl rfl
      rw [if_pos (show (f, r).1 3 4 = (42 : Int32) from (h.is (k := 9) (by omega) rfl).mpr y), if_pos y, if_neg (by omega)]
      obtain ⟨f2, b1, b2, b3, b4⟩ := ih (j + 1) m f1 _ (by omega) (by omega) a2 (by omega)
      refine ⟨f2, (a1 _).trans ?_, b2, a3.trans b3, by omega⟩
      rw [nI_1]
      exact b1
    · rw [if_neg (show ¬ (f, r).1 3 4 = (42 : Int32) from fun e => y ((h.is (k := 9) (by omega) rfl).mp e)), if_neg y, if_pos rfl]
      exact ⟨f, rfl, h, fun _ _ _ _ _ => rfl, Nat.le_refl _⟩
theorem cl_Term {t : Nat} {T : Nat → Nat} {z : Nat} {r : Nat → Nat → Option Nat} (hT : RT t r) {rdr : e_S → Nat → Int32 → e_G → Option e_G} {l : Nat} {q : PSt → PSt} (hq : RdOK t T z r rdr l q) : RdOK t T z r (fr_X5_readTerm rdr) l (p_many 6 q) := by
  intro f s h hs
  obtain ⟨f1, a1, a2, a3, a4⟩ := hq f s h hs
  obtain ⟨f2, b1, b2, b3, b4⟩ := cl_loopTerm hT hq 160 0 50000 f1 _ (by omega) (by omega) a2 (by omega)
  refine ⟨f2, ?_, b2, a3.trans b3, Nat.le_trans b4 a4⟩
  unfold fr_X5_readTerm
  rw [if_pos ob5, a1, Option.bind_some]
  rw [nI_0] at b1
  exact b1
theorem cl_loopAnd {t : Nat} {T : Nat → Nat} {z : Nat} {r : Nat → Nat → Option Nat} (hT : RT t r) {rdr : e_S → Nat → Int32 → e_G → Option e_G} {l : Nat} {q : PSt → PSt} (hq : RdOK t T z r rdr l q) : ∀ n j m f s, j + n = 160 → n < m → CL t T z r f s → tot_ s ≤ 160 → ∃ f', L_X5_readAnd_7 rdr m SS 3 (nI l) (nI j) (f, r) = some (f', r) ∧ CL t T z r f' (p_loop 2 q n s) ∧ KR t f f' ∧ tot_ (p_loop 2 q n s) ≤ tot_ s := by
  intro n
  have k160 : (160 : Int32) = nI 160 := by decide +kernel
  induction n with
  | zero =>
    intro j m f s h1 h2 h h3
    obtain ⟨m, rfl⟩ : ∃ q, m = q + 1 := ⟨m - 1, by omega⟩
    rw [L_X5_readAnd_7, if_pos (by rw [k160]; exact nI_le (by omega) (by omega))]
    exact ⟨f, rfl, h, fun _ _ _ _ _ => rfl, Nat.le_refl _⟩
  | succ n ih =>
    intro j m f s h1 h2 h h3
    obtain ⟨m, rfl⟩ : ∃ q, m = q + 1 := ⟨m - 1, by omega⟩
    rw [L_X5_readAnd_7, if_neg (by rw [k160]; exact nI_ge (by omega) (by omega)), gI_ok ob5, Option.bind_some, p_loop, op2 _ (by have := h.tok.2; omega)]
    by_cases y : p_tok s = 12
    · obtain ⟨f1, a1, a2, a3, a4⟩ := cl_bin (op := 9) hT hq h h3 (by omega) rfl rfl
      rw [if_pos (show (f, r).1 3 4 = (1010 : Int32) from (h.is (k := 12) (by omega) rfl).mpr y), if_pos y, if_neg (by omega)]
      obtain ⟨f2, b1, b2, b3, b4⟩ := ih (j + 1) m f1 _ (by omega) (by omega) a2 (by omega)
      refine ⟨f2, (a1 _).trans ?_, b2, a3.trans b3, by omega⟩
      rw [nI_1]
      exact b1
    · rw [if_neg (show ¬ (f, r).1 3 4 = (1010 : Int32) from fun e => y ((h.is (k := 12) (by omega) rfl).mp e)), if_neg y, if_pos rfl]
      exact ⟨f, rfl, h, fun _ _ _ _ _ => rfl, Nat.le_refl _⟩
theorem cl_And {t : Nat} {T : Nat → Nat} {z : Nat} {r : Nat → Nat → Option Nat} (hT : RT t r) {rdr : e_S → Nat → Int32 → e_G → Option e_G} {l : Nat} {q : PSt → PSt} (hq : RdOK t T z r rdr l q) : RdOK t T z r (fr_X5_readAnd rdr) l (p_many 2 q) := by
  intro f s h hs
  obtain ⟨f1, a1, a2, a3, a4⟩ := hq f s h hs
  obtain ⟨f2, b1, b2, b3, b4⟩ := cl_loopAnd hT hq 160 0 50000 f1 _ (by omega) (by omega) a2 (by omega)
  refine ⟨f2, ?_, b2, a3.trans b3, Nat.le_trans b4 a4⟩
  unfold fr_X5_readAnd
  rw [if_pos ob5, a1, Option.bind_some]
  rw [nI_0] at b1
  exact b1
theorem cl_loopOr {t : Nat} {T : Nat → Nat} {z : Nat} {r : Nat → Nat → Option Nat} (hT : RT t r) {rdr : e_S → Nat → Int32 → e_G → Option e_G} {l : Nat} {q : PSt → PSt} (hq : RdOK t T z r rdr l q) : ∀ n j m f s, j + n = 160 → n < m → CL t T z r f s → tot_ s ≤ 160 → ∃ f', L_X5_readOr_7 rdr m SS 3 (nI l) (nI j) (f, r) = some (f', r) ∧ CL t T z r f' (p_loop 1 q n s) ∧ KR t f f' ∧ tot_ (p_loop 1 q n s) ≤ tot_ s := by
  intro n
  have k160 : (160 : Int32) = nI 160 := by decide +kernel
  induction n with
  | zero =>
    intro j m f s h1 h2 h h3
    obtain ⟨m, rfl⟩ : ∃ q, m = q + 1 := ⟨m - 1, by omega⟩
    rw [L_X5_readOr_7, if_pos (by rw [k160]; exact nI_le (by omega) (by omega))]
    exact ⟨f, rfl, h, fun _ _ _ _ _ => rfl, Nat.le_refl _⟩
  | succ n ih =>
    intro j m f s h1 h2 h h3
    obtain ⟨m, rfl⟩ : ∃ q, m = q + 1 := ⟨m - 1, by omega⟩
    rw [L_X5_readOr_7, if_neg (by rw [k160]; exact nI_ge (by omega) (by omega)), gI_ok ob5, Option.bind_some, p_loop, op1 _ (by have := h.tok.2; omega)]
    by_cases y : p_tok s = 13
    · obtain ⟨f1, a1, a2, a3, a4⟩ := cl_bin (op := 10) hT hq h h3 (by omega) rfl rfl
      rw [if_pos (show (f, r).1 3 4 = (1011 : Int32) from (h.is (k := 13) (by omega) rfl).mpr y), if_pos y, if_neg (by omega)]
      obtain ⟨f2, b1, b2, b3, b4⟩ := ih (j + 1) m f1 _ (by omega) (by omega) a2 (by omega)
      refine ⟨f2, (a1 _).trans ?_, b2, a3.trans b3, by omega⟩
      rw [nI_1]
      exact b1
    · rw [if_neg (show ¬ (f, r).1 3 4 = (1011 : Int32) from fun e => y ((h.is (k := 13) (by omega) rfl).mp e)), if_neg y, if_pos rfl]
      exact ⟨f, rfl, h, fun _ _ _ _ _ => rfl, Nat.le_refl _⟩
theorem cl_Or {t : Nat} {T : Nat → Nat} {z : Nat} {r : Nat → Nat → Option Nat} (hT : RT t r) {rdr : e_S → Nat → Int32 → e_G → Option e_G} {l : Nat} {q : PSt → PSt} (hq : RdOK t T z r rdr l q) : RdOK t T z r (fr_X5_readOr rdr) l (p_many 1 q) := by
  intro f s h hs
  obtain ⟨f1, a1, a2, a3, a4⟩ := hq f s h hs
  obtain ⟨f2, b1, b2, b3, b4⟩ := cl_loopOr hT hq 160 0 50000 f1 _ (by omega) (by omega) a2 (by omega)
  refine ⟨f2, ?_, b2, a3.trans b3, Nat.le_trans b4 a4⟩
  unfold fr_X5_readOr
  rw [if_pos ob5, a1, Option.bind_some]
  rw [nI_0] at b1
  exact b1
theorem cl_loopSum {t : Nat} {T : Nat → Nat} {z : Nat} {r : Nat → Nat → Option Nat} (hT : RT t r) {rdr : e_S → Nat → Int32 → e_G → Option e_G} {l : Nat} {q : PSt → PSt} (hq : RdOK t T z r rdr l q) : ∀ n j m f s, j + n = 160 → n < m → CL t T z r f s → tot_ s ≤ 160 → ∃ f', L_X5_readSum_7 rdr m SS 3 (nI l) (nI j) (f, r) = some (f', r) ∧ CL t T z r f' (p_loop 5 q n s) ∧ KR t f f' ∧ tot_ (p_loop 5 q n s) ≤ tot_ s := by
  intro n
  have k160 : (160 : Int32) = nI 160 := by decide +kernel
  induction n with
  | zero =>
    intro j m f s h1 h2 h h3
    obtain ⟨m, rfl⟩ : ∃ q, m = q + 1 := ⟨m - 1, by omega⟩
    rw [L_X5_readSum_7, if_pos (by rw [k160]; exact nI_le (by omega) (by omega))]
    exact ⟨f, rfl, h, fun _ _ _ _ _ => rfl, Nat.le_refl _⟩
  | succ n ih =>
    intro j m f s h1 h2 h h3
    obtain ⟨m, rfl⟩ : ∃ q, m = q + 1 := ⟨m - 1, by omega⟩
    rw [L_X5_readSum_7, if_neg (by rw [k160]; exact nI_ge (by omega) (by omega)), gI_ok ob5, Option.bind_some, p_loop, op5 _ (by have := h.tok.2; omega)]
    by_cases y : p_tok s = 7
    · obtain ⟨f1, a1, a2, a3, a4⟩ := cl_bin (op := 5) hT hq h h3 (by omega) rfl rfl
      rw [if_pos (show (f, r).1 3 4 = (43 : Int32) from (h.is (k := 7) (by omega) rfl).mpr y), if_pos y, if_neg (by omega)]
      unfold J_X5_readSum_32 J_X5_readSum_47
      rw [gI_ok ob5, Option.bind_some, if_pos (show (f, r).1 3 4 = (43 : Int32) from (h.is (k := 7) (by omega) rfl).mpr y)]
      obtain ⟨f2, b1, b2, b3, b4⟩ := ih (j + 1) m f1 _ (by omega) (by omega) a2 (by omega)
      refine ⟨f2, (a1 _).trans ?_, b2, a3.trans b3, by omega⟩
      rw [nI_1]
      exact b1
    · rw [if_neg (show ¬ (f, r).1 3 4 = (43 : Int32) from fun e => y ((h.is (k := 7) (by omega) rfl).mp e)), Option.bind_some, if_neg y]
      by_cases y8 : p_tok s = 8
      · obtain ⟨f1, a1, a2, a3, a4⟩ := cl_bin (op := 6) hT hq h h3 (by omega) rfl rfl
        rw [if_pos (show (f, r).1 3 4 = (45 : Int32) from (h.is (k := 8) (by omega) rfl).mpr y8), if_pos y8, if_neg (by omega)]
        unfold J_X5_readSum_32 J_X5_readSum_47
        rw [gI_ok ob5, Option.bind_some, if_neg (show ¬ (f, r).1 3 4 = (43 : Int32) from fun e => y ((h.is (k := 7) (by omega) rfl).mp e))]
        obtain ⟨f2, b1, b2, b3, b4⟩ := ih (j + 1) m f1 _ (by omega) (by omega) a2 (by omega)
        refine ⟨f2, (a1 _).trans ?_, b2, a3.trans b3, by omega⟩
        rw [nI_1]
        exact b1
      · rw [if_neg (show ¬ (f, r).1 3 4 = (45 : Int32) from fun e => y8 ((h.is (k := 8) (by omega) rfl).mp e)), if_neg y8, if_pos rfl]
        exact ⟨f, rfl, h, fun _ _ _ _ _ => rfl, Nat.le_refl _⟩
theorem cl_Sum {t : Nat} {T : Nat → Nat} {z : Nat} {r : Nat → Nat → Option Nat} (hT : RT t r) {rdr : e_S → Nat → Int32 → e_G → Option e_G} {l : Nat} {q : PSt → PSt} (hq : RdOK t T z r rdr l q) : RdOK t T z r (fr_X5_readSum rdr) l (p_many 5 q) := by
  intro f s h hs
  obtain ⟨f1, a1, a2, a3, a4⟩ := hq f s h hs
  obtain ⟨f2, b1, b2, b3, b4⟩ := cl_loopSum hT hq 160 0 50000 f1 _ (by omega) (by omega) a2 (by omega)
  refine ⟨f2, ?_, b2, a3.trans b3, Nat.le_trans b4 a4⟩
  unfold fr_X5_readSum
  rw [if_pos ob5, a1, Option.bind_some]
  rw [nI_0] at b1
  exact b1
theorem cl_One {t : Nat} {T : Nat → Nat} {z : Nat} {r : Nat → Nat → Option Nat} (hT : RT t r) {r1 r2 : e_S → Nat → Int32 → e_G → Option e_G} {k : Nat} (hk : k ≤ 5) {one or : PSt → PSt} (h1 : k ≠ 0 → RdOK t T z r r1 (5 - (k - 1)) one) (h2 : k ≠ 0 → RdOK t T z r r2 (5 - (k - 1)) or) : RdOK t T z r (fr_X5_readOne r1 r2) (5 - k) (p_one k one or) := by
  intro f s h hs
  have ht := hT.1
  have k5 : (5 : Int32) = nI 5 := by decide +kernel
  unfold fr_X5_readOne p_one
  rw [if_pos ob5, gI_ok ob5, Option.bind_some]
  have fail : ∃ f', ((f_X5_fail SS 3 (f, r)).bind fun q10 => some q10) = some (f', r) ∧ CL t T z r f' (p_fail s) ∧ KR t f f' ∧ tot_ (p_fail s) ≤ tot_ s := by
    obtain ⟨f1, a1, a2, a3⟩ := cl_fail ht h
    exact ⟨f1, by rw [a1]; rfl, a2, a3, tot_fail s⟩
  have take : (p_tok s = 2 ∨ p_tok s = 3) → ∃ f', J_X5_readOne_20 r1 r2 SS 3 (f, r) = some (f', r) ∧ CL t T z r f' (p_step (p_add (p_tok s - 2) (p_val s) s)) ∧ KR t f f' ∧ tot_ (p_step (p_add (p_tok s - 2) (p_val s) s)) ≤ tot_ s := by
    intro y
    have v6 : f 3 6 = p_val s := by
      cases s with
      | inl a => exact absurd y (by show ¬ (1 = 2 ∨ 1 = 3); omega)
      | inr w =>
        obtain ⟨ts, o⟩ := w
        obtain ⟨-, -, -, -, -, h, tl, n, nx, rfl, -, -, -, -, -, -, -, h2, -⟩ := h
        exact h2 y
    have pt : p_tok (p_add (p_tok s - 2) (p_val s) s) = p_tok s := by
      cases s with
      | inl a => rfl
      | inr w =>
        obtain ⟨ts, o⟩ := w
        cases ts <;> rfl
    have fin : ∀ c : Int32, c = nI (p_tok s - 2) → ∃ f', J_X5_readOne_39 r1 r2 SS 3 (7 + 5 * t) c (f, r) = some (f', r) ∧ CL t T z r f' (p_step (p_add (p_tok s - 2) (p_val s) s)) ∧ KR t f f' ∧ tot_ (p_step (p_add (p_tok s - 2) (p_val s) s)) ≤ tot_ s := by
      intro c hc
      obtain ⟨f1, a1, a2, a3⟩ := cl_add (v := p_val s) hT h hs hc
      obtain ⟨f2, b1, b2, b3, b4⟩ := cl_step ht a2 (by omega)
      have := tot_add s (p_tok s - 2) (p_val s)
      refine ⟨f2, ?_, b2, a3.trans b3, by omega⟩
      unfold J_X5_readOne_39
      rw [gI_ok ob5, Option.bind_some, show (f, r).1 3 6 = p_val s from v6, a1, Option.bind_some, b1, Option.bind_some]
    unfold J_X5_readOne_20
    rw [hT.r1, Option.bind_some, gI_ok ob5, Option.bind_some]
    rcases y with y | y
    · rw [if_pos (show (f, r).1 3 4 = (1002 : Int32) from (h.is (k := 2) (by omega) rfl).mpr y)]
      exact fin _ (by rw [y]; rfl)
    · rw [if_neg (show ¬ (f, r).1 3 4 = (1002 : Int32) from fun e => by have := (h.is (k := 2) (by omega) rfl).mp e; omega)]
      exact fin _ (by rw [y]; rfl)
  by_cases y2 : p_tok s = 2
  · rw [if_pos (show (f, r).1 3 4 = (1002 : Int32) from (h.is (k := 2) (by omega) rfl).mpr y2), if_pos (Or.inl y2)]
    exact take (Or.inl y2)
  · rw [if_neg (show ¬ (f, r).1 3 4 = (1002 : Int32) from fun e => y2 ((h.is (k := 2) (by omega) rfl).mp e)), Option.bind_some]
    by_cases y3 : p_tok s = 3
    · rw [if_pos (show (f, r).1 3 4 = (1003 : Int32) from (h.is (k := 3) (by omega) rfl).mpr y3), if_pos (Or.inr y3)]
      exact take (Or.inr y3)
    · rw [if_neg (show ¬ (f, r).1 3 4 = (1003 : Int32) from fun e => y3 ((h.is (k := 3) (by omega) rfl).mp e)), if_neg (show ¬ (p_tok s = 2 ∨ p_tok s = 3) by omega)]
      by_cases k0 : k = 0
      · rw [if_pos k0, if_neg (show ¬ nI (5 - k) < (5 : Int32) by rw [k5]; exact nI_nlt (by omega) (by omega))]
        exact fail
      · have kl : nI (5 - k) + 1 = nI (5 - (k - 1)) := by
          rw [nI_1]
          congr 1
          omega
        rw [if_neg k0, if_pos (show nI (5 - k) < (5 : Int32) by rw [k5]; exact nI_lt (by omega) (by omega)), Option.bind_some]
        by_cases y8 : p_tok s = 8
        · obtain ⟨f1, a1, a2, a3, a4⟩ := cl_bin (op := 2) hT (h1 k0) h hs (by omega) rfl kl
          rw [if_pos (show (f, r).1 3 4 = (45 : Int32) from (h.is (k := 8) (by omega) rfl).mpr y8), if_pos y8]
          exact ⟨f1, a1 _, a2, a3, a4⟩
        · rw [if_neg (show ¬ (f, r).1 3 4 = (45 : Int32) from fun e => y8 ((h.is (k := 8) (by omega) rfl).mp e)), Option.bind_some, if_neg y8]
          by_cases y4 : p_tok s = 4
          · obtain ⟨f1, a1, a2, a3, a4⟩ := cl_step ht h (by omega)
            obtain ⟨f2, b1, b2, b3, b4⟩ := h2 k0 f1 _ a2 (by omega)
            obtain ⟨f3, c1, c2, c3, c4⟩ := cl_expect ht b2 (k := 5) (by omega) (by omega) (c := 41) rfl
            rw [if_pos (show (f, r).1 3 4 = (40 : Int32) from (h.is (k := 4) (by omega) rfl).mpr y4), if_pos y4, a1, Option.bind_some, kl, b1, Option.bind_some, c1, Option.bind_some]
            exact ⟨f3, rfl, c2, (a3.trans b3).trans c3, by omega⟩
          · rw [if_neg (show ¬ (f, r).1 3 4 = (40 : Int32) from fun e => y4 ((h.is (k := 4) (by omega) rfl).mp e)), if_neg y4]
            exact fail
theorem cl_Not {t : Nat} {T : Nat → Nat} {z : Nat} {r : Nat → Nat → Option Nat} (hT : RT t r) {r1 r2 : e_S → Nat → Int32 → e_G → Option e_G} {k : Nat} (hk : k ≤ 5) {not sum : PSt → PSt} (h1 : k ≠ 0 → RdOK t T z r r1 (5 - (k - 1)) not) (h2 : RdOK t T z r r2 (5 - k) sum) : RdOK t T z r (fr_X5_readNot r1 r2) (5 - k) (p_not k not sum) := by
  intro f s h hs
  have ht := hT.1
  have k5 : (5 : Int32) = nI 5 := by decide +kernel
  unfold fr_X5_readNot p_not
  rw [if_pos ob5, gI_ok ob5, Option.bind_some]
  by_cases y : p_tok s = 14
  · rw [if_pos (show (f, r).1 3 4 = (1012 : Int32) from (h.is (k := 14) (by omega) rfl).mpr y), if_pos y]
    by_cases k0 : k = 0
    · rw [if_pos k0, if_neg (show ¬ nI (5 - k) < (5 : Int32) by rw [k5]; exact nI_nlt (by omega) (by omega))]
      obtain ⟨f1, a1, a2, a3⟩ := cl_fail ht h
      exact ⟨f1, by rw [a1]; rfl, a2, a3, tot_fail s⟩
    · have kl : nI (5 - k) + 1 = nI (5 - (k - 1)) := by
        rw [nI_1]
        congr 1
        omega
      rw [if_neg k0, if_pos (show nI (5 - k) < (5 : Int32) by rw [k5]; exact nI_lt (by omega) (by omega))]
      obtain ⟨f1, a1, a2, a3, a4⟩ := cl_bin (op := 3) hT (h1 k0) h hs (by omega) rfl kl
      exact ⟨f1, a1 _, a2, a3, a4⟩
  · rw [if_neg (show ¬ (f, r).1 3 4 = (1012 : Int32) from fun e => y ((h.is (k := 14) (by omega) rfl).mp e)), if_neg y]
    obtain ⟨f1, a1, a2, a3, a4⟩ := h2 f s h hs
    rw [a1, Option.bind_some, gI_ok ob5, Option.bind_some]
    unfold p_cmp
    by_cases y10 : p_tok (sum s) = 10
    · rw [if_pos (show (f1, r).1 3 4 = (60 : Int32) from (a2.is (k := 10) (by omega) rfl).mpr y10), if_pos y10]
      unfold J_X5_readNot_64 J_X5_readNot_80
      rw [gI_ok ob5, Option.bind_some, if_pos (show (f1, r).1 3 4 = (60 : Int32) from (a2.is (k := 10) (by omega) rfl).mpr y10)]
      obtain ⟨f2, b1, b2, b3, b4⟩ := cl_bin (op := 7) hT h2 a2 (by omega) (by omega) rfl rfl
      exact ⟨f2, b1 _, b2, a3.trans b3, by omega⟩
    · rw [if_neg (show ¬ (f1, r).1 3 4 = (60 : Int32) from fun e => y10 ((a2.is (k := 10) (by omega) rfl).mp e)), Option.bind_some, if_neg y10]
      by_cases y11 : p_tok (sum s) = 11
      · rw [if_pos (show (f1, r).1 3 4 = (61 : Int32) from (a2.is (k := 11) (by omega) rfl).mpr y11), if_pos y11]
        unfold J_X5_readNot_64 J_X5_readNot_80
        rw [gI_ok ob5, Option.bind_some, if_neg (show ¬ (f1, r).1 3 4 = (60 : Int32) from fun e => y10 ((a2.is (k := 10) (by omega) rfl).mp e))]
        obtain ⟨f2, b1, b2, b3, b4⟩ := cl_bin (op := 8) hT h2 a2 (by omega) (by omega) rfl rfl
        exact ⟨f2, b1 _, b2, a3.trans b3, by omega⟩
      · rw [if_neg (show ¬ (f1, r).1 3 4 = (61 : Int32) from fun e => y11 ((a2.is (k := 11) (by omega) rfl).mp e)), if_neg y11]
        exact ⟨f1, rfl, a2, a3, a4⟩
theorem cl_rd {t : Nat} {T : Nat → Nat} {z : Nat} {r : Nat → Nat → Option Nat} (hT : RT t r) : ∀ k m, k ≤ 5 → k ≤ m → RdOK t T z r (rd (m + 1)).1 (5 - k) (p_rd k).1 ∧ RdOK t T z r (rd (m + 1)).2.1 (5 - k) (p_rd k).2.1 ∧ RdOK t T z r (rd (m + 1)).2.2 (5 - k) (p_rd k).2.2 := by
  intro k
  induction k with
  | zero =>
    intro m _ _
    have a : RdOK t T z r (fr_X5_readOne (rd m).1 (rd m).2.2) (5 - 0) (p_one 0 id id) := cl_One hT (by omega) (fun h => absurd rfl h) (fun h => absurd rfl h)
    have b : RdOK t T z r (fr_X5_readNot (rd m).2.1 (fr_X5_readSum (fr_X5_readTerm (fr_X5_readOne (rd m).1 (rd m).2.2)))) (5 - 0) (p_not 0 id (p_sum (p_one 0 id id))) := cl_Not hT (by omega) (fun h => absurd rfl h) (cl_Sum hT (cl_Term hT a))
    exact ⟨a, b, cl_Or hT (cl_And hT b)⟩
  | succ k ih =>
    intro m h1 h2
    obtain ⟨m, rfl⟩ : ∃ q, m = q + 1 := ⟨m - 1, by omega⟩
    obtain ⟨i1, i2, i3⟩ := ih m (by omega) (by omega)
    have a : RdOK t T z r (fr_X5_readOne (rd (m + 1)).1 (rd (m + 1)).2.2) (5 - (k + 1)) (p_one (k + 1) (p_rd k).1 (p_rd k).2.2) := cl_One hT h1 (fun _ => i1) (fun _ => i3)
    have b : RdOK t T z r (fr_X5_readNot (rd (m + 1)).2.1 (fr_X5_readSum (fr_X5_readTerm (fr_X5_readOne (rd (m + 1)).1 (rd (m + 1)).2.2)))) (5 - (k + 1)) (p_not (k + 1) (p_rd k).2.1 (p_sum (p_one (k + 1) (p_rd k).1 (p_rd k).2.2))) := cl_Not hT h1 (fun _ => i2) (cl_Sum hT (cl_Term hT a))
    exact ⟨a, b, cl_Or hT (cl_And hT b)⟩
