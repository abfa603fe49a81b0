/-! the call text: both alike -/
theorem ok_text : OK_text SS Inv_ := by
  intro g hI
  obtain ⟨f, r⟩ := g
  obtain ⟨n, tc, tz, tk, s, h⟩ := hI
  have h : IN f r n tc tz tk s := h
  have hG : GG (f, r) := h.1.cs.1
  obtain ⟨⟨g1, g2, g3, g4⟩, ⟨g5, g6, g7, g8, g9⟩, -⟩ := h.2.2
  have k6 : (6 : Int32) = nI 6 := by decide +kernel
  by_cases full : tc = 6
  · subst full
    exact ask0 h (-4) (by unfold f_X10_text; rw [if_pos ob10, gI_ok ob10, Option.bind_some, show (f, r).1 0 9 = nI 6 from g1, if_neg (by decide +kernel)]) (by unfold f_X11_text; rw [if_pos ob11, gI_ok ob11, Option.bind_some, show (f, r).1 76 9 = nI 6 from g2, if_pos k6.symm])
  have ht : tc < 6 := by omega
  obtain ⟨T, hT⟩ : ∃ T : Nat → Nat, ∀ k, k < tz → T k < 256 ∧ f 4 k = nI (T k) ∧ f 80 k = nI (T k) := ⟨fun k => (f 4 k).toNatClampNeg, fun k hk => by
    obtain ⟨b, b1, b2, b3⟩ := g8 k hk
    have e : (f 4 k).toNatClampNeg = b := by rw [b2]; exact nI_clamp (by omega)
    exact ⟨by show (f 4 k).toNatClampNeg < 256; omega, by show f 4 k = nI (f 4 k).toNatClampNeg; rw [e]; exact b2, by show f 80 k = nI (f 4 k).toNatClampNeg; rw [e]; exact b3⟩⟩
  obtain ⟨PT, ePT⟩ : ∃ PT, PT = p_text T tz := ⟨_, rfl⟩
  have hPT : ∀ p, PT (p + 1) = p_part (p_expect (15 + p) (PT p)) := fun p => by rw [ePT]; rfl
  have h0 : PT 0 = .inr (c_toks T tz (tz + 1) 0, []) := by rw [ePT]; rfl
  have hsp := p_text_sp (T := T) (z := tz) g7
  rw [← ePT] at hsp
  obtain ⟨r', hr'⟩ : ∃ r', r' = e_up (e_up r 3 0 (some 4)) 3 1 (some (7 + 5 * tc)) := ⟨_, rfl⟩
  have hr : ∀ a j, a ≠ 3 → r' a j = r a j := fun a j ha => by rw [hr', e_up_row ha, e_up_row ha]
  have G' : ∀ f, GG (f, r') := fun f' a j h1 h2 => (hr a j h1).trans (hG a j h1 h2)
  obtain ⟨t1, t2, t3, w, f1, c1, c2, c3, c4, c5, c6⟩ := x10_text h ht (T := T) (fun k hk => ⟨(hT k hk).1, (hT k hk).2.1⟩) hPT h0 (fun ts o e => (hsp 3 ts o e).1)
  rw [← hr'] at c1
  have f176 : f1 76 = f 76 := c2 76 (by omega) (by omega) (by omega) (by omega) (by omega) (by omega)
  have f1hi : ∀ b, 77 ≤ b → f1 b = f b := fun b hb => c2 b (by omega) (by omega) (by omega) (by omega) (by omega) (by omega)
  obtain ⟨f2, hf2⟩ : ∃ f2, f2 = e_up (e_up f1 76 18 0) 76 26 0 := ⟨_, rfl⟩
  have f2b : ∀ b, b ≠ 76 → f2 b = f1 b := fun b hb => by rw [hf2, e_up_row hb, e_up_row hb]
  have f2k : ∀ k, k ≠ 18 → k ≠ 26 → f2 76 k = f 76 k := fun k k1 k2 => by rw [hf2, e_up_ne (Or.inr k2), e_up_ne (Or.inr k1), f176]
  have hRS : RS tc T tz f2 (c_toks T tz (tz + 1) 0) [] := by
    refine ⟨(f2k 9 (by decide) (by decide)).trans g2, by rw [hf2, e_up_eq]; exact nI_0.symm, fun j hj => absurd hj (by simp), ⟨(f2k 6 (by decide) (by decide)).trans g6, g7, fun k hk => ?_, fun k hk => ?_⟩, 0, tz + 1, by omega, ?_, by omega, by omega, rfl⟩
    · rw [f2b 80 (by decide), f1hi 80 (by decide)]
      exact ⟨(hT k hk).1, (hT k hk).2.2⟩
    · rw [f2b 89 (by decide), f1hi 89 (by decide)]
      exact g9 k hk
    · rw [hf2, e_up_ne (Or.inr (by decide)), e_up_eq]
      exact nI_0.symm
  have tz1 := c_toks_tw (T := T) (z := tz) (tz + 1) 0 (by omega) (by omega)
  obtain ⟨w', f3, d1, d2, d3, d4, d5⟩ := rt_text ht (T := T) (z := tz) (G' f2) hPT h0 (fun p hp ts o e => by
    refine ⟨(hsp p ts o e).1, ?_⟩
    have e' : ts.length + o.length = tot_ (PT p) := by rw [e]; rfl
    rw [e']
    rcases (by omega : p = 0 ∨ p = 1 ∨ p = 2 ∨ p = 3) with rfl | rfl | rfl | rfl
    · rw [h0]
      show _ + 0 ≤ 161
      omega
    · omega
    · omega
    · omega) hRS
  have run : f_X11_text SS 76 (f1, r') = some (w', (f3, r')) := by
    unfold f_X11_text
    have n6 : ¬ nI tc = 6 := by rw [k6]; intro e; have := nI_inj (by omega) (by omega) e; omega
    rw [if_pos ob11, gI_ok ob11, Option.bind_some, show (f1, r').1 76 9 = nI tc by show f1 76 9 = _; rw [f176]; exact g2, if_neg n6, sI_ok ob11, Option.bind_some, sI_ok ob11, Option.bind_some]
    show L_X11_text_26 50000 SS 76 1 0 (e_up (e_up f1 76 18 0) 76 26 0, r') = _
    rw [← hf2]
    exact d1
  have f30 : f3 0 = f1 0 := (d2.1 0 (by decide) (by decide) (by decide) (by decide)).trans (f2b 0 (by decide))
  have hXF : XF tc f f3 := by
    refine ⟨fun b b0 b3 b7 b8 b9 b11 b76 b81 b82 b90 => ?_, fun k k1 k2 => ?_, fun k hk k6 k9 => ?_, fun i hi => ?_, fun i hi => ?_⟩
    · exact (d2.1 b b76 b81 b82 b90).trans ((f2b b b76).trans (c2 b b0 b3 b7 b8 b9 b11))
    · rw [f30]
      exact c3 k k1 k2
    · exact (d2.2.1 k hk k6 k9).trans (f2k k (by omega) (by omega))
    · exact (d2.2.2.1 i hi).trans (by rw [f2b 81 (by decide), f1hi 81 (by decide)])
    · exact (d2.2.2.2 i hi).trans (by rw [f2b 82 (by decide), f1hi 82 (by decide)])
  have f310 : f3 0 10 = 0 := by rw [f30]; exact c4
  have lo : ∀ b, b < 76 → f3 b = f1 b := fun b hb => (d2.1 b (by omega) (by omega) (by omega) (by omega)).trans (f2b b (by omega))
  have bad : ∀ v, w = v → w' = v → f1 0 9 = nI tc → f3 76 9 = nI tc → ∃ (v : Int32) (g1 g2 : e_G), f_X10_text SS 0 (f, r) = some (v, g1) ∧ f_X11_text SS 76 g1 = some (v, g2) ∧ Inv_ g2 := by
    intro v e1 e2 e3 e4
    exact ⟨v, (f1, r'), (f3, r'), by rw [c1, e1], by rw [run, e2], n, tc, 0, tk, s, h.text ht hXF hr ⟨by omega, by omega⟩ (by show f3 0 9 = _; rw [f30]; exact e3) e4 f310 d3 (fun _ _ => rfl) (fun t a b => by omega)⟩
  cases e3 : PT 3 with
  | inl a =>
    obtain ⟨x1, x2⟩ := c5 a e3
    obtain ⟨y1, y2⟩ := d4 a e3
    exact bad _ x1 y1 x2 y2
  | inr x =>
    obtain ⟨ts3, o3⟩ := x
    obtain ⟨x1, x2⟩ := c6 ts3 o3 e3
    obtain ⟨y1, y2⟩ := d5 ts3 o3 e3
    by_cases hd : hd_ ts3 = 0
    rotate_left
    · obtain ⟨w3, -⟩ := hsp 3 ts3 o3 e3
      match ts3, w3, x2, y2, hd with
      | [], w3, _, _, _ => exact (show False from w3).elim
      | g :: tl, _, x2, y2, hd =>
        obtain ⟨p1, p2⟩ := x2 hd g tl rfl
        obtain ⟨q1, q2⟩ := y2 hd g tl rfl
        exact bad _ p1 q1 p2 q2
    · obtain ⟨p1, p2, p3, p4, p5⟩ := x1 hd
      obtain ⟨q1, q2, q3, q4, q5⟩ := y1 hd
      obtain ⟨-, -, -, s3⟩ := hsp 3 ts3 o3 e3
      obtain ⟨h3, tl3, o2, C, e2, -, -, eC, evC, tkC⟩ := s3 2 rfl
      obtain ⟨-, -, -, s2⟩ := hsp 2 _ o2 e2
      obtain ⟨h2, tl2, o1, B, e1, -, -, eB, evB, tkB⟩ := s2 1 rfl
      obtain ⟨-, -, -, s1⟩ := hsp 1 _ o1 e1
      obtain ⟨h1, tl1, o0, A, e0, -, -, eA, evA, tkA⟩ := s1 0 rfl
      have o00 : o0 = [] := by rw [h0] at e0; cases e0; rfl
      subst o00
      rw [List.nil_append] at eA
      subst eA
      subst eB
      subst eC
      obtain ⟨nt, hnt⟩ : ∃ nt : Nat → List Emi, nt = fun p => if p = 0 then o1 else if p = 1 then B else C := ⟨_, rfl⟩
      have n0 : nt 0 = o1 := by rw [hnt]; rfl
      have n1 : nt 1 = B := by rw [hnt]; rfl
      have n2 : nt 2 = C := by rw [hnt]; rfl
      have a1 : t_at nt 1 = o1.length := by show 0 + (nt 0).length = _; rw [n0]; omega
      have a2 : t_at nt 2 = (o1 ++ B).length := by show t_at nt 1 + (nt 1).length = _; rw [a1, n1, List.length_append]
      have a3 : t_at nt 3 = ((o1 ++ B) ++ C).length := by show t_at nt 2 + (nt 2).length = _; rw [a2, n2, List.length_append (as := o1 ++ B)]
      have at3 := t_at_3 o1 B C
      rw [← hnt] at at3
      have tkR : ∀ p, p < 3 → ∀ j (h : j < (nt p).length), tokR (nt p)[j] := by
        intro p hp j hj
        have : ∀ q, q ∈ nt p → tokR q := by
          intro q hq
          rcases (by omega : p = 0 ∨ p = 1 ∨ p = 2) with rfl | rfl | rfl
          · rw [n0] at hq; exact tkA q hq
          · rw [n1] at hq; exact tkB q hq
          · rw [n2] at hq; exact tkC q hq
        exact this _ (List.getElem_mem hj)
      have hTX : TX (f3, r') tc nt := by
        refine ⟨by rw [a3]; exact p3, fun p hp => ?_, fun p hp j hj => ?_⟩
        · show f3 (11 + 5 * tc) p = _
          rw [lo _ (by omega)]
          rcases (by omega : p = 0 ∨ p = 1 ∨ p = 2) with rfl | rfl | rfl
          · rw [a1]; exact p5 0 (by omega) _ _ e1
          · rw [a2]; exact p5 1 (by omega) _ _ e2
          · rw [a3]; exact p5 2 (by omega) _ _ e3
        · obtain ⟨u1, u2⟩ := at3 p hp j hj
          show f3 (8 + 5 * tc) _ = _ ∧ f3 (9 + 5 * tc) _ = _ ∧ _
          rw [lo (8 + 5 * tc) (by omega), lo (9 + 5 * tc) (by omega), ← u2]
          exact ⟨(p4 _ u1).1, (p4 _ u1).2, by rw [u2]; exact (tkR p hp j hj).1⟩
      have hRX : RX (f3, r') tc nt := by
        refine ⟨by rw [a3]; omega, fun p hp => ?_, fun p hp j hj => ?_⟩
        · show f3 82 (4 * tc + p) = _
          rcases (by omega : p = 0 ∨ p = 1 ∨ p = 2 ∨ p = 3) with rfl | rfl | rfl | rfl
          · exact q5 0 (by omega) _ _ e0
          · rw [a1]; exact q5 1 (by omega) _ _ e1
          · rw [a2]; exact q5 2 (by omega) _ _ e2
          · rw [a3]; exact q4
        · obtain ⟨u1, u2⟩ := at3 p hp j hj
          show f3 81 _ = _ ∧ _
          rw [← u2]
          exact ⟨q3 _ u1, by rw [u2]; exact tkR p hp j hj⟩
      have hok : t_ok nt := by
        intro p hp nm
        rcases (by omega : p = 0 ∨ p = 1 ∨ p = 2) with rfl | rfl | rfl
        · rw [n0]; exact evA nm []
        · rw [n1]; exact evB nm []
        · rw [n2]; exact evC nm []
      refine ⟨nI tc, (f1, r'), (f3, r'), by rw [c1, p1], by rw [run, q1], n, tc + 1, 0, fun t => if t = tc then nt else tk t, s, h.text ht hXF hr ⟨by omega, by omega⟩ (by show f3 0 9 = _; rw [f30]; exact p2) q2 f310 d3 (fun t y => by show (if t = tc then nt else tk t) = tk t; rw [if_neg (by omega)]) (fun t y1 y2 => ?_)⟩
      obtain rfl : t = tc := by omega
      show TX (f3, r') t (if t = t then nt else tk t) ∧ RX (f3, r') t (if t = t then nt else tk t) ∧ t_ok (if t = t then nt else tk t)
      rw [if_pos rfl]
      exact ⟨hTX, hRX, hok⟩
