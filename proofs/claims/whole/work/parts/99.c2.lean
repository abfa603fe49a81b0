/-! the reference reads a whole text, as the pure one does -/
theorem rt_text {t : Nat} (ht : t < 6) {T : Nat → Nat} {z : Nat} {r : Nat → Nat → Option Nat} {f0 f : Nat → Nat → Int32} (hG : GG (f0, r)) {PT : Nat → PSt} (hPT : ∀ p, PT (p + 1) = p_part (p_expect (15 + p) (PT p))) {ts0 : List Tkn} (h0 : PT 0 = .inr (ts0, [])) (hTW : ∀ p, p ≤ 3 → ∀ ts o, PT p = .inr (ts, o) → TW ts ∧ ts.length + o.length ≤ 161) (h : RS t T z f ts0 []) : ∃ w f', L_X11_text_26 50000 SS 76 1 0 (f, r) = some (w, (f', r)) ∧ KZ t f f' ∧ f' 76 6 = 0 ∧ (∀ a, PT 3 = .inl a → w = (-100 : Int32) - nI a ∧ f' 76 9 = nI t) ∧ ∀ ts o, PT 3 = .inr (ts, o) → (hd_ ts = 0 → w = nI t ∧ f' 76 9 = nI (t + 1) ∧ (∀ j (h : j < o.length), f' 81 (200 * t + j) = m_enc o[j]) ∧ f' 82 (4 * t + 3) = nI o.length ∧ ∀ p, p < 3 → ∀ ts o, PT p = .inr (ts, o) → f' 82 (4 * t + p) = nI o.length) ∧ (hd_ ts ≠ 0 → ∀ h tl, ts = h :: tl → w = (-100 : Int32) - nI h.2.1 ∧ f' 76 9 = nI t) := by
  have k3 : (3 : Int32) = nI 3 := by decide +kernel
  have up : ∀ p a, PT p = .inl a → PT (p + 1) = .inl a := fun p a e => by rw [hPT, e, p_exp_inl _ (by omega), p_part_inl]
  have bad : ∀ f1 a, KZ t f f1 → f1 76 9 = nI t → f1 76 19 = nI a → PT 3 = .inl a → L_X11_text_26 50000 SS 76 1 0 (f, r) = J_X11_text_122 SS 76 0 (f1, r) → ∃ w f', L_X11_text_26 50000 SS 76 1 0 (f, r) = some (w, (f', r)) ∧ KZ t f f' ∧ f' 76 6 = 0 ∧ (∀ a, PT 3 = .inl a → w = (-100 : Int32) - nI a ∧ f' 76 9 = nI t) ∧ ∀ ts o, PT 3 = .inr (ts, o) → (hd_ ts = 0 → w = nI t ∧ f' 76 9 = nI (t + 1) ∧ (∀ j (h : j < o.length), f' 81 (200 * t + j) = m_enc o[j]) ∧ f' 82 (4 * t + 3) = nI o.length ∧ ∀ p, p < 3 → ∀ ts o, PT p = .inr (ts, o) → f' 82 (4 * t + p) = nI o.length) ∧ (hd_ ts ≠ 0 → ∀ h tl, ts = h :: tl → w = (-100 : Int32) - nI h.2.1 ∧ f' 76 9 = nI t) := by
    intro f1 a q1 q2 q3 q4 q5
    obtain ⟨f2, b1, b2, b3, b4⟩ := rt_bad (f := f1) ht hG q2 q3
    refine ⟨_, f2, q5.trans b1, q1.trans b2, b3, fun a' e => ?_, fun ts o e => ?_⟩
    · rw [q4] at e
      cases e
      exact ⟨rfl, b4⟩
    · rw [q4] at e
      cases e
  obtain ⟨w0, l0⟩ := hTW 0 (by omega) _ _ h0
  obtain ⟨f1, a1, a2, a3, a4⟩ := rt_stage ht hG h w0 l0 (p := 0) (by omega) (m := 49998) (q := PT 1) (by rw [← h0]; exact (hPT 0).symm)
  rw [nI_0] at a3 a4
  cases e1 : PT 1 with
  | inl a => exact bad f1 a a1 a2 (a3 a e1).2 (up 2 a (up 1 a e1)) (a3 a e1).1
  | inr x1 =>
    obtain ⟨ts1, o1⟩ := x1
    obtain ⟨a5, a6, a7, a8⟩ := a4 ts1 o1 e1
    obtain ⟨w1, l1⟩ := hTW 1 (by omega) _ _ e1
    obtain ⟨f2, b1, b2, b3, b4⟩ := rt_stage ht hG a6 w1 l1 (p := 1) (by omega) (m := 49997) (q := PT 2) (by rw [← e1]; exact (hPT 1).symm)
    cases e2 : PT 2 with
    | inl a => exact bad f2 a (a1.trans b1) b2 (b3 a e2).2 (up 2 a e2) (a5.trans (b3 a e2).1)
    | inr x2 =>
      obtain ⟨ts2, o2⟩ := x2
      obtain ⟨b5, b6, b7, b8⟩ := b4 ts2 o2 e2
      obtain ⟨w2, l2⟩ := hTW 2 (by omega) _ _ e2
      obtain ⟨f3, c1, c2, c3, c4⟩ := rt_stage ht hG b6 w2 l2 (p := 2) (by omega) (m := 49996) (q := PT 3) (by rw [← e2]; exact (hPT 2).symm)
      cases e3 : PT 3 with
      | inl a => rw [← e3]; exact bad f3 a ((a1.trans b1).trans c1) c2 (c3 a e3).2 e3 ((a5.trans b5).trans (c3 a e3).1)
      | inr x3 =>
        obtain ⟨ts3, o3⟩ := x3
        obtain ⟨c5, c6, c7, c8⟩ := c4 ts3 o3 e3
        obtain ⟨w3, l3⟩ := hTW 3 (by omega) _ _ e3
        obtain ⟨h9, h26, hc, hN, pp, nn, n1, n2, n3, n4, n5⟩ := c6
        obtain ⟨nn, rfl⟩ : ∃ q, nn = q + 1 := ⟨nn - 1, by omega⟩
        obtain ⟨f4, d1, d2, d3, d4, d5, d6, d7, d8⟩ := x11_next hG hN n2 n1
        have l17 := (lx_sp (T := T) n1).1
        have hd3 : hd_ ts3 = (lx_ T z pp).1 := by rw [n5, c_toks]; rfl
        have U4 : KU t f3 f4 := ⟨fun b h1 _ _ => d2 b h1, fun k hk => d3 k (by omega) (by omega) (by omega) (by omega), fun i _ => by rw [d2 81 (by decide)]⟩
        have K4 : KZ t f f4 := ((a1.trans b1).trans c1).trans U4.kz
        have r9 : f4 76 9 = nI t := (d3 9 (by decide) (by decide) (by decide) (by decide)).trans h9
        have run : ∀ v : Int32, (v = if (lx_ T z pp).1 = 0 then 1 else 0) → L_X11_text_26 50000 SS 76 1 0 (f, r) = J_X11_text_122 SS 76 v (f4, r) := by
          intro v hv
          refine ((a5.trans b5).trans c5).trans ?_
          rw [L_X11_text_26, if_pos (show (3 : Int32) ≤ nI (2 + 1) by decide)]
          unfold J_X11_text_101 J_X11_text_121
          rw [if_neg (show ¬ (1 : Int32) = 0 by decide), d1, Option.bind_some, gI_ok ob11, Option.bind_some, hv]
          by_cases y : (lx_ T z pp).1 = 0
          · rw [if_pos y, if_pos (show (f4, r).1 76 20 = 0 by show f4 76 20 = 0; rw [d6, y]; rfl)]
          · rw [if_neg y, if_neg (show ¬ (f4, r).1 76 20 = 0 from fun e => y ((rc_is l17 (j := 0) (by omega) d6 (c := 0) rfl).mp e))]
        by_cases y : (lx_ T z pp).1 = 0
        · obtain ⟨f5, g1, g2, g3, g4, g5, g6, g7⟩ := rt_good (f := f4) ht hG r9
          refine ⟨_, f5, (run 1 (by rw [if_pos y])).trans g1, K4.trans g2, g3, fun a e => (by cases e), fun ts o e => ?_⟩
          cases e
          refine ⟨fun _ => ⟨rfl, g4, fun j hj => by rw [g7, d2 81 (by decide)]; exact hc j hj, by rw [g5, d3 26 (by decide) (by decide) (by decide) (by decide)]; exact h26, fun p hp ts o e => ?_⟩, fun q => absurd (hd3.trans y) q⟩
          rw [g6 _ (by omega), d2 82 (by decide)]
          rcases (by omega : p = 0 ∨ p = 1 ∨ p = 2) with rfl | rfl | rfl
          · rw [h0] at e
            cases e
            rw [c8 _ (by omega), b8 _ (by omega)]
            exact a7
          · rw [e1] at e
            cases e
            rw [c8 _ (by omega)]
            exact b7
          · rw [e2] at e
            cases e
            exact c7
        · obtain ⟨f5, g1, g2, g3, g4⟩ := rt_bad (f := f4) ht hG r9 d5
          refine ⟨_, f5, (run 0 (by rw [if_neg y])).trans g1, K4.trans g2, g3, fun a e => (by cases e), fun ts o e => ?_⟩
          cases e
          refine ⟨fun q => absurd (hd3.symm.trans q) y, fun _ h' tl e' => ?_⟩
          rw [n5, c_toks] at e'
          cases e'
          exact ⟨rfl, g4⟩
