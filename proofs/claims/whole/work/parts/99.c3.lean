/-! the call text -/
theorem sR_ok : ∀ t, t < 6 → (e_ob SS 5 3 && decide (7 + 5 * t < SS.1)) = true := by decide +kernel
theorem sR_ok4 : (e_ob SS 5 3 && decide (4 < SS.1)) = true := by decide +kernel
theorem x10_text {n tc tz : Nat} {tk : Nat → Nat → List (Nat × Int32)} {s : Nat → Nat → Int32} {f : Nat → Nat → Int32} {r : Nat → Nat → Option Nat} (h : IN f r n tc tz tk s) (ht : tc < 6) {T : Nat → Nat} (hT : ∀ k, k < tz → T k < 256 ∧ f 4 k = nI (T k)) {PT : Nat → PSt} (hPT : ∀ p, PT (p + 1) = p_part (p_expect (15 + p) (PT p))) (h0 : PT 0 = .inr (c_toks T tz (tz + 1) 0, [])) (hTW : ∀ ts o, PT 3 = .inr (ts, o) → TW ts) : tot_ (PT 1) ≤ 160 ∧ tot_ (PT 2) ≤ 160 ∧ tot_ (PT 3) ≤ 160 ∧ ∃ w f', f_X10_text SS 0 (f, r) = some (w, (f', e_up (e_up r 3 0 (some 4)) 3 1 (some (7 + 5 * tc)))) ∧ (∀ b, b ≠ 0 → b ≠ 3 → b ≠ 7 + 5 * tc → b ≠ 8 + 5 * tc → b ≠ 9 + 5 * tc → b ≠ 11 + 5 * tc → f' b = f b) ∧ (∀ k, k ≠ 9 → k ≠ 10 → f' 0 k = f 0 k) ∧ f' 0 10 = 0 ∧ (∀ a, PT 3 = .inl a → w = (-100 : Int32) - nI a ∧ f' 0 9 = nI tc) ∧ ∀ ts o, PT 3 = .inr (ts, o) → (hd_ ts = 0 → w = nI tc ∧ f' 0 9 = nI (tc + 1) ∧ o.length ≤ 160 ∧ (∀ j (h : j < o.length), f' (8 + 5 * tc) j = nI o[j].1 ∧ f' (9 + 5 * tc) j = o[j].2) ∧ ∀ p, p < 3 → ∀ ts o, PT (p + 1) = .inr (ts, o) → f' (11 + 5 * tc) p = nI o.length) ∧ (hd_ ts ≠ 0 → ∀ h tl, ts = h :: tl → w = (-100 : Int32) - nI h.2.1 ∧ f' 0 9 = nI tc) := by
  have hG := h.1.cs.1
  obtain ⟨⟨g1, g2, g3, g4⟩, ⟨g5, g6, g7, g8, g9⟩, -⟩ := h.2.2
  have k6 : (6 : Int32) = nI 6 := by decide +kernel
  have k4 : (4 : Int32) = nI 4 := by decide +kernel
  obtain ⟨r', hr'⟩ : ∃ r', r' = e_up (e_up r 3 0 (some 4)) 3 1 (some (7 + 5 * tc)) := ⟨_, rfl⟩
  rw [← hr']
  have hr : ∀ a j, a ≠ 3 → r' a j = r a j := fun a j ha => by rw [hr', e_up_row ha, e_up_row ha]
  have G' : ∀ f, GG (f, r') := fun f' a j h1 h2 => (hr a j h1).trans (hG a j h1 h2)
  have hRT : RT tc r' := ⟨ht, by rw [hr', e_up_eq], fun f' => ⟨(rfT (G' f') tc ht).1, (rfT (G' f') tc ht).2.1, (rfT (G' f') tc ht).2.2.2⟩⟩
  obtain ⟨f1, hf1⟩ : ∃ f1, f1 = e_up (e_up (e_up (e_up f 3 2 (nI tz)) (7 + 5 * tc) 4 0) 3 3 0) 3 7 (-1) := ⟨_, rfl⟩
  have q1 : ∀ b, b ≠ 3 → b ≠ 7 + 5 * tc → f1 b = f b := fun b h1 h2 => by rw [hf1, e_up_row h1, e_up_row h1, e_up_row h2, e_up_row h1]
  have hRD : RD f1 r' T tz := ⟨by rw [hr', e_up_ne (Or.inr (by decide)), e_up_eq], by rw [hf1, e_up_ne (Or.inr (by decide)), e_up_ne (Or.inr (by decide)), e_up_row (by omega), e_up_eq], g7, fun k hk => by rw [q1 4 (by omega) (by omega)]; exact hT k hk⟩
  have f3z : f1 3 3 = nI 0 := by rw [hf1, e_up_ne (Or.inr (by decide)), e_up_eq, nI_0]
  obtain ⟨f2, s1, s2, s3, s4, s5, s6, s7, s8⟩ := x5_step hRD f3z (by omega)
  obtain ⟨b1, b2, b3, b4, b5, b6, b7⟩ := lx_sp (T := T) (z := tz) (p := 0) (by omega)
  have tz1 := c_toks_tw (T := T) (z := tz) (tz + 1) 0 (by omega) (by omega)
  have hC : CL tc T tz r' f2 (PT 0) := by
    rw [h0]
    refine ⟨⟨hRD.1, s3.trans hRD.2.1, g7, fun k hk => by rw [s2 4 (by omega)]; exact hRD.2.2.2 k hk⟩, s4.trans (by rw [hf1, e_up_eq]), by show _ + 0 ≤ 161; omega, by rw [s2 _ (by omega), hf1, e_up_row (by omega), e_up_row (by omega), e_up_eq, List.length_nil, nI_0], fun j hj => absurd hj (by simp), ?_⟩
    rw [c_toks]
    exact ⟨_, _, tz, _, rfl, b1, b2, s5, b3, fun e => (by have := b4 e; omega), s6, s7, s8, rfl⟩
  obtain ⟨t1, t2, t3, v, f3, c1, c2, c3, c4⟩ := cl_text hRT hPT hC (by rw [h0]; show _ + 0 ≤ 161; omega)
  refine ⟨t1, t2, t3, ?_⟩
  have run : f_X10_text SS 0 (f, r) = (e_sI SS (f3, r') 10 0 10 (0 : Int32)).bind fun g17 => if v < 0 then (e_gI SS g17 10 0 9).bind fun v19 => (e_sI SS g17 10 0 9 (v19 + (1 : Int32))).bind fun g21 => (e_gI SS g21 10 0 9).bind fun v23 => some (v23 - (1 : Int32), g21) else some ((-100 : Int32) - v, g17) := by
    unfold f_X10_text
    rw [if_pos ob10, gI_ok ob10, Option.bind_some, show (f, r).1 0 9 = nI tc from g1, if_pos (by rw [k6]; exact nI_lt ht (by omega)), (rf10 hG).2.2.2.2.2.1, Option.bind_some, (rf10 hG).2.2.2.2.2.2.1, Option.bind_some, gI_ok ob10, Option.bind_some, show (f, r).1 0 10 = nI tz from g5, (rf10 hG).1, Option.bind_some, Option.bind_some, rfTx hG ht, Option.bind_some]
    have all : f_X5_readAll SS 3 4 (nI tz) (7 + 5 * tc) (f, r) = some (v, (f3, r')) := by
      unfold f_X5_readAll
      rw [if_pos ob5]
      unfold e_sR
      rw [if_pos sR_ok4, Option.bind_some, aL_ok arC.2.2.1, Option.bind_some, sI_ok ob5, Option.bind_some, if_pos (sR_ok tc ht), Option.bind_some]
      have mn : i_min (nI tz) (nI 160) = nI tz := by
        unfold i_min
        rw [if_neg (nI_nlt (by omega) (by omega))]
      rw [mn]
      show ((e_gR SS (e_up f 3 2 (nI tz), e_up (e_up r 3 0 (some 4)) 3 1 (some (7 + 5 * tc))) 5 3 1).bind _) = _
      rw [← hr', hRT.r1, Option.bind_some]
      unfold f_X9_empty
      rw [if_pos (obT tc ht), sI_ok (obT tc ht), Option.bind_some, Option.bind_some, sI_ok ob5, Option.bind_some, sI_ok ob5, Option.bind_some]
      show ((f_X5_step SS 3 (e_up (e_up (e_up (e_up f 3 2 (nI tz)) (7 + 5 * tc) 4 0) 3 3 0) 3 7 (-1), r')).bind _) = _
      rw [← hf1, s1, Option.bind_some]
      exact c1
    rw [all, Option.bind_some]
  obtain ⟨f4, hf4⟩ : ∃ f4, f4 = e_up f3 0 10 0 := ⟨_, rfl⟩
  have f39 : f3 0 = f 0 := (c2 0 (by omega) (by omega) (by omega) (by omega) (by omega)).trans ((s2 0 (by omega)).trans (q1 0 (by omega) (by omega)))
  have f49 : f4 0 9 = nI tc := by rw [hf4, e_up_ne (Or.inr (by decide)), f39]; exact g1
  have bad : ∀ a, a ≤ 160 → v = nI a → f_X10_text SS 0 (f, r) = some ((-100 : Int32) - nI a, (f4, r')) := by
    intro a ha hv
    rw [run, sI_ok ob10, Option.bind_some, hv, if_neg (nI_pos (by omega)), hf4]
  have fr : ∀ b, b ≠ 0 → b ≠ 3 → b ≠ 7 + 5 * tc → b ≠ 8 + 5 * tc → b ≠ 9 + 5 * tc → b ≠ 11 + 5 * tc → f4 b = f b := fun b h0 h1 h2 h3 h4 h5 => by
    rw [hf4, e_up_row h0, c2 b h1 h2 h3 h4 h5, s2 b h1, q1 b h1 h2]
  have f0 : ∀ k, k ≠ 9 → k ≠ 10 → f4 0 k = f 0 k := fun k _ h2 => by rw [hf4, e_up_ne (Or.inr h2), f39]
  cases e : PT 3 with
  | inl a =>
    obtain ⟨a1, a2⟩ := c3 a e
    refine ⟨_, f4, bad a a1 a2, fr, f0, by rw [hf4, e_up_eq], fun a' e' => ?_, fun ts o e' => (by cases e')⟩
    cases e'
    exact ⟨rfl, f49⟩
  | inr x =>
    obtain ⟨ts, o⟩ := x
    obtain ⟨d1, d2⟩ := c4 ts o e
    by_cases y : hd_ ts = 0
    · obtain ⟨e1, e2, e3, e4⟩ := d1 y
      refine ⟨nI tc, e_up f4 0 9 (nI (tc + 1)), ?_, fun b h0 h1 h2 h3 h4 h5 => by rw [e_up_row h0]; exact fr b h0 h1 h2 h3 h4 h5, fun k h1 h2 => by rw [e_up_ne (Or.inr h1)]; exact f0 k h1 h2, by rw [e_up_ne (Or.inr (by decide)), hf4, e_up_eq], fun a' e' => (by cases e'), fun ts' o' e' => ?_⟩
      · rw [run, sI_ok ob10, Option.bind_some, e1, if_pos (by decide)]
        show ((e_gI SS (e_up f3 0 10 0, r') 10 0 9).bind _) = _
        rw [← hf4, gI_ok ob10, Option.bind_some, sI_ok ob10, Option.bind_some, gI_ok ob10, Option.bind_some]
        show some (e_up f4 0 9 (f4 0 9 + 1) 0 9 - 1, (e_up f4 0 9 (f4 0 9 + 1), r')) = _
        rw [f49, nI_1, e_up_eq, nI_pred]
      · cases e'
        refine ⟨fun _ => ⟨rfl, e_up_eq, e2, fun j hj => ?_, fun p hp ts1 o1 e5 => ?_⟩, fun q => absurd y q⟩
        · rw [e_up_row (by omega), e_up_row (by omega), hf4, e_up_row (by omega), e_up_row (by omega)]
          exact e3 j hj
        · rw [e_up_row (by omega), hf4, e_up_row (by omega)]
          exact e4 p hp ts1 o1 e5
    · match ts, y, d2, e with
      | [], _, _, e => exact (show False from hTW _ _ e).elim
      | g :: tl, y, d2, e =>
        obtain ⟨a1, a2⟩ := d2 y g tl rfl
        refine ⟨_, f4, bad g.2.1 a1 a2, fr, f0, by rw [hf4, e_up_eq], fun a' e' => (by cases e'), fun ts' o' e' => ?_⟩
        cases e'
        refine ⟨fun q => absurd q y, fun _ g' tl' e'' => ?_⟩
        cases e''
        exact ⟨rfl, f49⟩
