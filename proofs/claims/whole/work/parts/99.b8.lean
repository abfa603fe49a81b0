/-! a whole text: the class, the reference -/
theorem p_rd_inl (k : Nat) (a : Nat) : (p_rd k).2.2 (.inl a) = .inl a := by
  have sm : ∀ {one : PSt → PSt}, (∀ a, one (.inl a) = .inl a) → ∀ a, p_sum one (.inl a) = .inl a := fun h a => p_many_inl (by omega) (fun a => p_many_inl (by omega) h a) a
  have om : ∀ {not : PSt → PSt}, (∀ a, not (.inl a) = .inl a) → ∀ a, p_or not (.inl a) = .inl a := fun h a => p_many_inl (by omega) (fun a => p_many_inl (by omega) h a) a
  cases k with
  | zero =>
    have b : ∀ a, p_or (p_not 0 id (p_sum (p_one 0 id id))) (.inl a) = .inl a := om fun a => p_not_inl 0 id (sm fun a => p_one_inl 0 id id a) a
    have e : (p_rd 0).2.2 = p_or (p_not 0 id (p_sum (p_one 0 id id))) := rfl
    rw [e]
    exact b a
  | succ k =>
    have b : ∀ a, p_or (p_not (k + 1) (p_rd k).2.1 (p_sum (p_one (k + 1) (p_rd k).1 (p_rd k).2.2))) (.inl a) = .inl a := om fun a => p_not_inl _ _ (sm fun a => p_one_inl _ _ _ a) a
    have e : (p_rd (k + 1)).2.2 = p_or (p_not (k + 1) (p_rd k).2.1 (p_sum (p_one (k + 1) (p_rd k).1 (p_rd k).2.2))) := rfl
    rw [e]
    exact b a
theorem p_exp_inl (k : Nat) (hk : k ≠ 1) (a : Nat) : p_expect k (.inl a) = .inl a := by
  unfold p_expect
  rw [show p_tok (.inl a) = 1 from rfl, if_neg (by omega)]
  rfl
theorem p_part_inl (a : Nat) : p_part (.inl a) = .inl a := by
  unfold p_part
  rw [p_rd_inl, p_exp_inl 6 (by omega)]
/-- the text, part by part -/
def p_text (T : Nat → Nat) (z : Nat) : Nat → PSt
  | 0 => .inr (c_toks T z (z + 1) 0, [])
  | p + 1 => p_part (p_expect (15 + p) (p_text T z p))
theorem p_text_sp {T : Nat → Nat} {z : Nat} (hz : z ≤ 160) : ∀ p ts o, p_text T z p = .inr (ts, o) → TW ts ∧ ts.length ≤ 161 ∧ (p = 0 → o = []) ∧ ∀ q, p = q + 1 → ∃ h tl o0 E, p_text T z q = .inr (h :: tl, o0) ∧ h.1 = 15 + q ∧ r_run tl true true [] 0 o0 = .inr (ts, o) ∧ o = o0 ++ E ∧ p_ev E ∧ ∀ q, q ∈ E → tokR q := by
  intro p
  induction p with
  | zero =>
    intro ts o e
    cases e
    have := c_toks_tw (T := T) (z := z) (z + 1) 0 (by omega) (by omega)
    exact ⟨this.1, by omega, fun _ => rfl, fun q e => by omega⟩
  | succ p ih =>
    intro ts o e
    rw [p_text] at e
    cases r : p_text T z p with
    | inl a => rw [r, p_exp_inl _ (by omega), p_part_inl] at e; cases e
    | inr w =>
      obtain ⟨ts0, o0⟩ := w
      obtain ⟨i1, i2, -⟩ := ih ts0 o0 r
      rw [r] at e
      match ts0, i1, i2, r, e with
      | [], i1, _, _, _ => exact i1.elim
      | h :: tl, i1, i2, r, e =>
        have i2 : tl.length + 1 ≤ 161 := i2
        unfold p_expect at e
        by_cases y : h.1 = 15 + p
        · rw [show p_tok (.inr (h :: tl, o0)) = h.1 from rfl, if_pos y] at e
          have tw : TW tl := by
            rcases i1.2.2.2 with e | e
            · omega
            · exact e.2
          obtain ⟨c1, c2, c3, E, c4, c5, c6⟩ := (sim_part tw (by omega) o0).2 ts o e
          refine ⟨c2, by omega, fun e => by omega, fun q hq => ?_⟩
          obtain rfl : p = q := by omega
          exact ⟨h, tl, o0, E, r, y, c1, c4, c5, c6⟩
        · rw [show p_tok (.inr (h :: tl, o0)) = h.1 from rfl, if_neg y, show p_fail (.inr (h :: tl, o0)) = .inl h.2.1 from rfl, p_part_inl] at e
          cases e
theorem cc_lead : ∀ p, p < 3 → (1020 : Int32) + nI p = c_cc (15 + p) := by decide +kernel
/-- what stays where the class reads a text -/
def KX (t : Nat) (f f' : Nat → Nat → Int32) : Prop := ∀ b, b ≠ 3 → b ≠ 7 + 5 * t → b ≠ 8 + 5 * t → b ≠ 9 + 5 * t → b ≠ 11 + 5 * t → f' b = f b
theorem KX.trans {t : Nat} {f f' f'' : Nat → Nat → Int32} (h : KX t f f') (k : KX t f' f'') : KX t f f'' := fun b h1 h2 h3 h4 h5 => (k b h1 h2 h3 h4 h5).trans (h b h1 h2 h3 h4 h5)
theorem KR.kx {t : Nat} {f f' : Nat → Nat → Int32} (h : KR t f f') : KX t f f' := fun b h1 h2 h3 h4 _ => h b h1 h2 h3 h4
theorem CL.end' {t : Nat} {T : Nat → Nat} {z : Nat} {r : Nat → Nat → Option Nat} {f : Nat → Nat → Int32} {s : PSt} (ht : t < 6) (h : CL t T z r f s) {p : Nat} {v : Int32} : CL t T z r (e_up f (11 + 5 * t) p v) s := by
  have a : ∀ b, b ≠ 11 + 5 * t → e_up f (11 + 5 * t) p v b = f b := fun b hb => e_up_row hb
  cases s with
  | inl x =>
    obtain ⟨h1, h2, h3, k, h4, h5⟩ := h
    exact ⟨h1, by rw [a 3 (by omega)]; exact h2, by rw [a 3 (by omega)]; exact h3, k, h4, by rw [a _ (by omega)]; exact h5⟩
  | inr w =>
    obtain ⟨ts, o⟩ := w
    obtain ⟨hR, h7, hl, h4, ho, h, tl, n, nx, e, w1, w2, w3, w4, w5, w6, w7, w8, w9⟩ := h
    exact ⟨⟨hR.1, by rw [a 3 (by omega)]; exact hR.2.1, hR.2.2.1, fun k hk => by rw [a 4 (by omega)]; exact hR.2.2.2 k hk⟩, by rw [a 3 (by omega)]; exact h7, hl, by rw [a _ (by omega)]; exact h4, fun j hj => by rw [a _ (by omega), a _ (by omega)]; exact ho j hj, h, tl, n, nx, e, w1, w2, by rw [a 3 (by omega)]; exact w3, w4, w5, by rw [a 3 (by omega)]; exact w6, by rw [a 3 (by omega)]; exact w7, by rw [a 3 (by omega)]; exact w8, w9⟩
theorem cl_stage {t : Nat} {T : Nat → Nat} {z : Nat} {r : Nat → Nat → Option Nat} {f : Nat → Nat → Int32} {s : PSt} (hT : RT t r) (h : CL t T z r f s) (hs : tot_ s ≤ 161) {p : Nat} (hp : p < 3) : ∃ f', (∀ K : e_G → Option (Int32 × e_G), ((f_X5_expect SS 3 ((1020 : Int32) + nI p) (f, r)).bind fun q6 => (f_X5_readOr SS 3 (0 : Int32) q6).bind fun q8 => (f_X5_expect SS 3 (59 : Int32) q8).bind fun q10 => (e_gR SS q10 5 3 1).bind fun v11 => (f_X9_endPart SS v11 (nI p) q10).bind K) = K (f', r)) ∧ CL t T z r f' (p_part (p_expect (15 + p) s)) ∧ KX t f f' ∧ tot_ (p_part (p_expect (15 + p) s)) ≤ 160 ∧ (∀ ts o, p_part (p_expect (15 + p) s) = .inr (ts, o) → f' (11 + 5 * t) p = nI o.length) ∧ ∀ j, j ≠ p → f' (11 + 5 * t) j = f (11 + 5 * t) j := by
  have ht := hT.1
  have A11 := (arT t ht).2.2.2
  have k3 : (3 : Int32) = nI 3 := by decide +kernel
  obtain ⟨f1, a1, a2, a3, a4⟩ := cl_expect ht h (k := 15 + p) (by omega) (by omega) (cc_lead p hp)
  have t1 : tot_ (p_expect (15 + p) s) ≤ 160 := by
    unfold p_expect
    by_cases y : p_tok s = 15 + p
    · obtain ⟨_, _, _, _, b4⟩ := cl_step ht h (by omega)
      rw [if_pos y]
      omega
    · rw [if_neg y]
      cases s with
      | inl a => exact Nat.zero_le _
      | inr w =>
        obtain ⟨ts, o⟩ := w
        cases ts with
        | nil => obtain ⟨-, -, -, -, -, h, tl, n, nx, e, -⟩ := h; cases e
        | cons h tl => exact Nat.zero_le _
  obtain ⟨f2, b1, b2, b3, b4⟩ := (cl_rd hT 5 7 (by omega) (by omega)).2.2 f1 _ a2 t1
  obtain ⟨f3, c1, c2, c3, c4⟩ := cl_expect ht b2 (k := 6) (by omega) (by omega) (c := 59) rfl
  have hC : CL t T z r f3 (p_part (p_expect (15 + p) s)) := c2
  have hsz : ∃ v, f3 (7 + 5 * t) 4 = v := ⟨_, rfl⟩
  have row : ∀ b, b = 11 + 5 * t → f3 b = f b := fun b hb => (c3 b (by omega) (by omega) (by omega) (by omega)).trans ((b3 b (by omega) (by omega) (by omega) (by omega)).trans (a3 b (by omega) (by omega) (by omega) (by omega)))
  refine ⟨e_up f3 (11 + 5 * t) p (f3 (7 + 5 * t) 4), fun K => ?_, hC.end' ht, (((a3.trans b3).trans c3).kx).trans (fun b _ _ _ _ h5 => e_up_row h5), ?_, ?_, ?_⟩
  · have b1 : f_X5_readOr SS 3 (0 : Int32) (f1, r) = some (f2, r) := b1
    rw [a1, Option.bind_some, b1, Option.bind_some, c1, Option.bind_some, hT.r1, Option.bind_some]
    have : f_X9_endPart SS (7 + 5 * t) (nI p) (f3, r) = some (e_up f3 (11 + 5 * t) p (f3 (7 + 5 * t) 4), r) := by
      unfold f_X9_endPart
      rw [if_pos (obT t ht), if_neg (nI_pos (by omega)), if_neg (show ¬ (3 : Int32) ≤ nI p by rw [k3]; exact nI_ge hp (by omega)), (hT.2.2 f3).2.2, Option.bind_some, gI_ok (obT t ht), Option.bind_some, aS_ok A11 hp (by omega), Option.bind_some]
    rw [this, Option.bind_some]
  · exact Nat.le_trans c4 (Nat.le_trans b4 t1)
  · intro ts o e
    rw [e] at hC
    rw [e_up_eq]
    exact hC.2.2.2.1
  · intro j hj
    rw [e_up_ne (Or.inr hj), row _ rfl]
/-- the class reads a text -/
theorem cl_text {t : Nat} {T : Nat → Nat} {z : Nat} {r : Nat → Nat → Option Nat} {f : Nat → Nat → Int32} (hT : RT t r) {PT : Nat → PSt} (hPT : ∀ p, PT (p + 1) = p_part (p_expect (15 + p) (PT p))) (h : CL t T z r f (PT 0)) (t0 : tot_ (PT 0) ≤ 161) : tot_ (PT 1) ≤ 160 ∧ tot_ (PT 2) ≤ 160 ∧ tot_ (PT 3) ≤ 160 ∧ ∃ v f', L_X5_readAll_54 50000 SS 3 0 (f, r) = some (v, (f', r)) ∧ KX t f f' ∧ (∀ a, PT 3 = .inl a → a ≤ 160 ∧ v = nI a) ∧ ∀ ts o, PT 3 = .inr (ts, o) → (hd_ ts = 0 → v = -1 ∧ o.length ≤ 160 ∧ (∀ j (h : j < o.length), f' (8 + 5 * t) j = nI o[j].1 ∧ f' (9 + 5 * t) j = o[j].2) ∧ ∀ p, p < 3 → ∀ ts o, PT (p + 1) = .inr (ts, o) → f' (11 + 5 * t) p = nI o.length) ∧ (hd_ ts ≠ 0 → ∀ h tl, ts = h :: tl → h.2.1 ≤ 160 ∧ v = nI h.2.1) := by
  have ht := hT.1
  have k3 : (3 : Int32) = nI 3 := by decide +kernel
  obtain ⟨f1, a1, a2, a3, a4, a5, a6⟩ := cl_stage hT h t0 (p := 0) (by omega)
  rw [← hPT 0] at a2 a4 a5
  have a2 : CL t T z r f1 (PT 1) := a2
  have a4 : tot_ (PT 1) ≤ 160 := a4
  obtain ⟨f2, b1, b2, b3, b4, b5, b6⟩ := cl_stage hT a2 (by omega) (p := 1) (by omega)
  rw [← hPT 1] at b2 b4 b5
  have b2 : CL t T z r f2 (PT 2) := b2
  have b4 : tot_ (PT 2) ≤ 160 := b4
  obtain ⟨f3, c1, c2, c3, c4, c5, c6⟩ := cl_stage hT b2 (by omega) (p := 2) (by omega)
  rw [← hPT 2] at c2 c4 c5
  have hC : CL t T z r f3 (PT 3) := c2
  have hK : KX t f f3 := (a3.trans b3).trans c3
  have run : L_X5_readAll_54 50000 SS 3 0 (f, r) = L_X5_readAll_54 49997 SS 3 3 (f3, r) := by
    rw [show (50000 : Nat) = 49999 + 1 from rfl, L_X5_readAll_54, if_neg (by decide)]
    refine (a1 _).trans ?_
    rw [show (0 : Int32) + 1 = nI 1 by decide +kernel, show (49999 : Nat) = 49998 + 1 from rfl, L_X5_readAll_54, if_neg (by decide +kernel)]
    refine (b1 _).trans ?_
    rw [show nI 1 + 1 = nI 2 by decide +kernel, show (49998 : Nat) = 49997 + 1 from rfl, L_X5_readAll_54, if_neg (by decide +kernel)]
    refine (c1 _).trans ?_
    rw [show nI 2 + 1 = 3 by decide +kernel]
  refine ⟨a4, b4, c4, ?_⟩
  rw [run, show (49997 : Nat) = 49996 + 1 from rfl, L_X5_readAll_54, if_pos (by decide)]
  have bad : ∀ s, PT 3 = s → p_tok s ≠ 0 → ∃ f4, f_X5_expect SS 3 1000 (f3, r) = some (f4, r) ∧ CL t T z r f4 (p_fail s) ∧ KX t f f4 := by
    intro s e y
    rw [e] at hC
    obtain ⟨f4, d1, d2, d3⟩ := cl_fail ht hC
    refine ⟨f4, ?_, d2, hK.trans d3.kx⟩
    unfold f_X5_expect
    rw [if_pos ob5, gI_ok ob5, Option.bind_some, if_neg (show ¬ (f3, r).1 3 4 = 1000 from fun q => y ((hC.is (k := 0) (by omega) rfl).mp q)), d1]
    rfl
  cases e : PT 3 with
  | inl a =>
    obtain ⟨f4, d1, d2, d3⟩ := bad _ e (by show 1 ≠ 0; omega)
    obtain ⟨d4, d5, d6, d7⟩ : a ≤ 160 ∧ f4 3 4 = 1001 ∧ f4 3 7 = nI a ∧ ∃ k, k ≤ 160 ∧ f4 (7 + 5 * t) 4 = nI k := d2
    rw [d1, Option.bind_some, gI_ok ob5, Option.bind_some]
    refine ⟨_, f4, rfl, d3, fun b eb => ?_, fun ts o eb => (by cases eb)⟩
    cases eb
    exact ⟨d4, d6⟩
  | inr w =>
    obtain ⟨ts, o⟩ := w
    rw [e] at hC
    obtain ⟨hR, h7, hl, h4, ho, h', tl, n, nx, rfl, w1, w2, w3, w4, w5, w6, w7, w8, w9⟩ := hC
    by_cases y : h'.1 = 0
    · obtain ⟨f4, d1, d2, d3, d4, -⟩ := x5_step hR w3 w4
      have hE : f_X5_expect SS 3 1000 (f3, r) = some (f4, r) := by
        unfold f_X5_expect
        rw [if_pos ob5, gI_ok ob5, Option.bind_some, if_pos (show (f3, r).1 3 4 = 1000 by show f3 3 4 = 1000; rw [w6, y]; rfl), d1]
        rfl
      rw [hE, Option.bind_some, gI_ok ob5, Option.bind_some]
      refine ⟨_, f4, rfl, hK.trans (fun b hb _ _ _ _ => d2 b hb), fun b eb => (by cases eb), fun ts o' eb => ?_⟩
      cases eb
      have hl : tl.length + 1 + o.length ≤ 161 := hl
      refine ⟨fun _ => ⟨d4.trans h7, by omega, fun j hj => by rw [d2 _ (by omega), d2 _ (by omega)]; exact ho j hj, fun p hp ts1 o1 e1 => ?_⟩, fun q => absurd y q⟩
      rw [d2 _ (by omega)]
      rcases (by omega : p = 0 ∨ p = 1 ∨ p = 2) with rfl | rfl | rfl
      · rw [c6 0 (by omega), b6 0 (by omega)]
        exact a5 ts1 o1 e1
      · rw [c6 1 (by omega)]
        exact b5 ts1 o1 e1
      · exact c5 ts1 o1 e1
    · obtain ⟨f4, d1, d2, d3⟩ := bad _ e y
      obtain ⟨d4, d5, d6, d7⟩ : h'.2.1 ≤ 160 ∧ f4 3 4 = 1001 ∧ f4 3 7 = nI h'.2.1 ∧ ∃ k, k ≤ 160 ∧ f4 (7 + 5 * t) 4 = nI k := d2
      rw [d1, Option.bind_some, gI_ok ob5, Option.bind_some]
      refine ⟨_, f4, rfl, d3, fun b eb => (by cases eb), fun ts o' eb => ?_⟩
      cases eb
      refine ⟨fun q => absurd q y, fun _ h2 tl2 e2 => ?_⟩
      cases e2
      exact ⟨d4, d6⟩
