/-! the class's readers and the reference's machine agree: a whole part -/
theorem p_one_inl (k : Nat) (one or : PSt → PSt) (a : Nat) : p_one k one or (.inl a) = .inl a := by
  unfold p_one
  rw [show p_tok (.inl a) = 1 from rfl, if_neg (by omega)]
  by_cases k0 : k = 0
  · rw [if_pos k0]; rfl
  · rw [if_neg k0, if_neg (by omega), if_neg (by omega)]; rfl
theorem p_many_inl {ρ : Nat} (h : 1 ≤ ρ) {q : PSt → PSt} (hq : ∀ a, q (.inl a) = .inl a) (a : Nat) : p_many ρ q (.inl a) = .inl a := by
  unfold p_many
  rw [hq, p_loop_inl h]
theorem p_not_inl (k : Nat) (not : PSt → PSt) {sum : PSt → PSt} (hs : ∀ a, sum (.inl a) = .inl a) (a : Nat) : p_not k not sum (.inl a) = .inl a := by
  unfold p_not
  rw [show p_tok (.inl a) = 1 from rfl, if_neg (by omega), hs]
  rfl
theorem sim_sum {k : Nat} {one : PSt → PSt} (h : SimOne k one) : Sim_ 5 5 false k (p_sum one) := sim_many (c := 6) (sim_many (c := 7) h.sim (Or.inr ⟨rfl, by omega⟩) (by omega) (by omega) (by omega)) (Or.inr ⟨rfl, by omega⟩) (by omega) (by omega) (by omega)
theorem sim_or {k : Nat} {not : PSt → PSt} (h : Sim_ 4 3 true k not) : Sim_ 1 1 true k (p_or not) := sim_many (c := 2) (sim_many (c := 4) h (Or.inl ⟨rfl, by omega⟩) (by omega) (by omega) (by omega)) (Or.inl ⟨rfl, by omega⟩) (by omega) (by omega) (by omega)
theorem sim_rd : ∀ k, k ≤ 5 → SimOne k (p_rd k).1 ∧ Sim_ 4 3 true k (p_rd k).2.1 ∧ Sim_ 1 1 true k (p_rd k).2.2 := by
  have sm : ∀ {one : PSt → PSt}, (∀ a, one (.inl a) = .inl a) → ∀ a, p_sum one (.inl a) = .inl a := fun h a => p_many_inl (by omega) (fun a => p_many_inl (by omega) h a) a
  intro k
  induction k with
  | zero =>
    intro _
    have a : SimOne 0 (p_one 0 id id) := sim_one (by omega) (fun h => absurd rfl h) (fun h => absurd rfl h)
    have b : Sim_ 4 3 true 0 (p_not 0 id (p_sum (p_one 0 id id))) := sim_not (by omega) (fun h => absurd rfl h) (sim_sum a) (sm fun a => p_one_inl _ _ _ a)
    exact ⟨a, b, sim_or b⟩
  | succ k ih =>
    intro hk
    obtain ⟨i1, i2, i3⟩ := ih (by omega)
    have a : SimOne (k + 1) (p_one (k + 1) (p_rd k).1 (p_rd k).2.2) := sim_one hk (fun _ => i1) (fun _ => i3)
    have b : Sim_ 4 3 true (k + 1) (p_not (k + 1) (p_rd k).2.1 (p_sum (p_one (k + 1) (p_rd k).1 (p_rd k).2.2))) := sim_not hk (fun _ => i2) (sim_sum a) (sm fun a => p_one_inl _ _ _ a)
    exact ⟨a, b, sim_or b⟩
def p_part (s : PSt) : PSt := p_expect 6 ((p_rd 5).2.2 s)
/-- a part: the same fault, or the same steps -/
theorem sim_part {ts : List Tkn} (hT : TW ts) (hL : ts.length ≤ 161) (out : List Emi) : (∀ a, p_part (.inr (ts, out)) = .inl a → r_run ts true true [] 0 out = .inl a) ∧ ∀ ts' out', p_part (.inr (ts, out)) = .inr (ts', out') → r_run ts true true [] 0 out = .inr (ts', out') ∧ TW ts' ∧ ts'.length < ts.length ∧ ∃ E, out' = out ++ E ∧ p_ev E ∧ ∀ q, q ∈ E → tokR q := by
  obtain ⟨j1, j2⟩ := (sim_rd 5 (by omega)).2.2 ts out [] true hT hL trivial (by rw [if_pos rfl])
  unfold p_part
  cases r : (p_rd 5).2.2 (.inr (ts, out)) with
  | inl a =>
    refine ⟨fun b e => ?_, fun ts' out' e => (by cases e)⟩
    cases e
    exact j1 a r
  | inr w =>
    obtain ⟨ts1, out1⟩ := w
    obtain ⟨d, P, mn, e1, e2, e3, e4, e5, e7, e8, e6⟩ := j2 ts1 out1 r
    match ts1, e2, e3, e8, e6 with
    | [], e2, _, _, _ => exact e2.elim
    | g :: ts1, e2, e3, e8, e6 =>
      have e8 : r_lk 1 g.1 P := e8
      have e6 : r_run ts true true [] 0 out = r_run (g :: ts1) false mn (P ++ []) (0 + r_cnt P) (out ++ d) := e6
      unfold p_expect
      rw [show p_tok (.inr (g :: ts1, out1)) = g.1 from rfl]
      by_cases g6 : g.1 = 6
      · rw [if_pos g6]
        refine ⟨fun b e => (by cases e), fun ts' out' e => ?_⟩
        cases e
        refine ⟨?_, ?_, ?_, d ++ r_ops P, e1, e4, e5⟩
        · rw [e6, r_run, if_pos g6, r_unw_all (S := []) trivial P _ _ e7, if_pos rfl, e1, List.append_assoc]
        · rcases e2.2.2.2 with e | e
          · omega
          · exact e.2
        · have e3 : ts1.length + 1 < ts.length := e3
          omega
      · rw [if_neg g6]
        refine ⟨fun b e => ?_, fun ts' out' e => (by cases e)⟩
        cases e
        rw [e6]
        by_cases g5 : g.1 = 5
        · rw [r_run, if_neg g6, if_pos g5, r_unw_all (S := []) trivial P _ _ e7]
        · exact sim_end (Or.inl rfl) e7 e8 g5 g6
/-- the tokens from a place on -/
def c_toks (T : Nat → Nat) (z : Nat) : Nat → Nat → List Tkn
  | 0, _ => []
  | n + 1, p => ((lx_ T z p).1, (lx_ T z p).2.1, (lx_ T z p).2.2.1) :: if (lx_ T z p).1 = 0 then [] else c_toks T z n (lx_ T z p).2.2.2
theorem c_run_pos {P : Nat → Bool} {z s : Nat} (h : s < z) (hP : P s = true) : s < c_run P z (z - s) s := by
  obtain ⟨k, e⟩ : ∃ k, z - s = k + 1 := ⟨z - s - 1, by omega⟩
  rw [e, c_run, if_pos ⟨h, hP⟩]
  have := (c_run_le P z k (s + 1) (by omega)).1
  omega
theorem c_nv_le {T : Nat → Nat} {s : Nat} : ∀ n, n ≤ 4 → (∀ j, j < n → 48 ≤ T (s + j) ∧ T (s + j) ≤ 57) → ∃ v, v < 10 ^ n ∧ c_nv T s n = nI v := by
  intro n
  induction n with
  | zero => intro _ _; exact ⟨0, by omega, rfl⟩
  | succ n ih =>
    intro hn hd
    obtain ⟨v, h1, h2⟩ := ih (by omega) (fun j hj => hd j (by omega))
    have hb := hd n (by omega)
    have p : 10 ^ n ≤ 1000 := by
      calc 10 ^ n ≤ 10 ^ 3 := Nat.pow_le_pow_right (by omega) (by omega)
        _ = 1000 := rfl
    have p1 : 10 ^ (n + 1) = 10 * 10 ^ n := by rw [Nat.pow_succ, Nat.mul_comm]
    refine ⟨10 * v + (T (s + n) - 48), by omega, ?_⟩
    rw [c_nv, h2, show (10 : Int32) = nI 10 by decide +kernel, show (48 : Int32) = nI 48 by decide +kernel, show nI 10 * nI v = nI (10 * v) from (Int32.ofNat_mul 10 v).symm, nI_add, show nI (10 * v + T (s + n)) - nI 48 = nI (10 * v + T (s + n) - 48) from (Int32.ofNat_sub _ _ (by omega)).symm]
    congr 1
    omega
theorem lx_sp {T : Nat → Nat} {z p : Nat} (hp : p ≤ z) : (lx_ T z p).1 ≤ 17 ∧ (lx_ T z p).2.1 ≤ z ∧ (lx_ T z p).2.2.2 ≤ z ∧ ((lx_ T z p).1 ≠ 0 → p < (lx_ T z p).2.2.2) ∧ ((lx_ T z p).1 = 0 → (lx_ T z p).2.2.2 = z) ∧ ((lx_ T z p).1 = 2 → ∃ k, k ≤ 99999 ∧ (lx_ T z p).2.2.1 = nI k) ∧ ((lx_ T z p).1 = 3 → ∃ k, k < 6 ∧ (lx_ T z p).2.2.1 = nI k) := by
  unfold lx_
  simp only
  have sl := c_run_le (c_blank T) z (z - p) p hp
  generalize c_run (c_blank T) z (z - p) p = s at *
  by_cases sz : s < z
  · rw [if_pos sz]
    by_cases l : c_lett T s = true
    · rw [if_pos l]
      have lp := c_run_pos sz l
      have ll := c_run_le (c_lett T) z (z - s) s (by omega)
      generalize c_run (c_lett T) z (z - s) s = q at *
      have wl := c_word_le T s q
      have kk : ∀ w, w < 13 → c_wtok w ≤ 17 ∧ c_wtok w ≠ 0 ∧ c_wtok w ≠ 2 ∧ (c_wtok w = 3 → 3 ≤ w ∧ w < 9) := by decide
      obtain ⟨k1, k2, k3, k4⟩ := kk _ (by omega : c_word T s q < 13)
      refine ⟨k1, by simp; omega, by simp; omega, fun _ => by simp; omega, fun e => absurd e k2, fun e => absurd e k3, fun e => ⟨c_word T s q - 3, by have := k4 e; omega, rfl⟩⟩
    · rw [if_neg l]
      by_cases d : c_dig T s = true
      · rw [if_pos d]
        have lp := c_run_pos sz d
        have ll := c_run_le (c_dig T) z (z - s) s (by omega)
        have la := c_run_all (c_dig T) z (z - s) s
        generalize c_run (c_dig T) z (z - s) s = q at *
        refine ⟨by simp only; split <;> omega, by simp; omega, by simp; omega, fun _ => by simp; omega, fun e => by simp only at e; split at e <;> omega, fun e => ?_, fun e => by simp only at e; split at e <;> omega⟩
        simp only at e
        split at e
        · rename_i y
          obtain ⟨v, v1, v2⟩ := c_nv_le (T := T) (s := s) (q - s) y (fun j hj => by
            have := la (s + j) (by omega) (by omega)
            unfold c_dig at this
            simp at this
            exact this)
          have : 10 ^ (q - s) ≤ 10 ^ 4 := Nat.pow_le_pow_right (by omega) y
          exact ⟨v, by omega, v2⟩
        · omega
      · rw [if_neg d]
        have kk : ∀ b, c_stok b ≤ 17 ∧ c_stok b ≠ 0 ∧ c_stok b ≠ 2 ∧ c_stok b ≠ 3 := by
          intro b
          unfold c_stok
          repeat' split
          all_goals omega
        obtain ⟨k1, k2, k3, k4⟩ := kk (T s)
        exact ⟨k1, by simp; omega, by simp; omega, fun _ => by simp; omega, fun e => absurd e k2, fun e => absurd e k3, fun e => absurd e k4⟩
  · rw [if_neg sz]
    exact ⟨by simp, by simp; omega, by simp; omega, fun e => absurd rfl e, fun _ => by simp; omega, fun e => by simp at e, fun e => by simp at e⟩
theorem c_toks_tw {T : Nat → Nat} {z : Nat} : ∀ n p, p ≤ z → z < n + p → TW (c_toks T z n p) ∧ (c_toks T z n p).length ≤ z - p + 1 := by
  intro n
  induction n with
  | zero => intro p h1 h2; omega
  | succ n ih =>
    intro p h1 h2
    obtain ⟨a1, a2, a3, a4, a5, a6, a7⟩ := lx_sp (T := T) h1
    rw [c_toks]
    by_cases e : (lx_ T z p).1 = 0
    · rw [if_pos e]
      exact ⟨⟨a1, a6, a7, Or.inl ⟨e, rfl⟩⟩, by simp⟩
    · rw [if_neg e]
      have := a4 e
      obtain ⟨i1, i2⟩ := ih (lx_ T z p).2.2.2 a3 (by omega)
      exact ⟨⟨a1, a6, a7, Or.inr ⟨e, i1⟩⟩, by simp; omega⟩
theorem c_toks_fuel {T : Nat → Nat} {z : Nat} : ∀ n m p, p ≤ z → z < n + p → z < m + p → c_toks T z n p = c_toks T z m p := by
  intro n
  induction n with
  | zero => intro m p h1 h2; omega
  | succ n ih =>
    intro m p h1 h2 h3
    obtain ⟨m, rfl⟩ : ∃ q, m = q + 1 := ⟨m - 1, by omega⟩
    obtain ⟨a1, a2, a3, a4, a5, a6, a7⟩ := lx_sp (T := T) h1
    rw [c_toks, c_toks]
    by_cases e : (lx_ T z p).1 = 0
    · rw [if_pos e, if_pos e]
    · rw [if_neg e, if_neg e]
      have := a4 e
      rw [ih m (lx_ T z p).2.2.2 a3 (by omega) (by omega)]
