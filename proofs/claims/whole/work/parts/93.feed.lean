/-! feed -/
/-- bytes come behind a tape (place a), its size at (o, j) -/
def c_fd (a o j t : Nat) (bs : Nat → Int32) (f : Nat → Nat → Int32) : Nat → Nat → Nat → Int32
  | 0 => f
  | k + 1 => e_up (e_up (c_fd a o j t bs f k) a (t + k) (bs k)) o j (nI (t + k + 1))
theorem c_fd_row {a o j t : Nat} {bs : Nat → Int32} {f : Nat → Nat → Int32} {q : Nat} (h1 : q ≠ a) (h2 : q ≠ o) : ∀ k, c_fd a o j t bs f k q = f q := by
  intro k
  induction k with
  | zero => rfl
  | succ k ih =>
    show e_up (e_up _ a _ _) o j _ q = _
    rw [e_up_row h2, e_up_row h1, ih]
theorem c_fd_o {a o j t : Nat} {bs : Nat → Int32} {f : Nat → Nat → Int32} (h : o ≠ a) {i : Nat} (hi : i ≠ j) : ∀ k, c_fd a o j t bs f k o i = f o i := by
  intro k
  induction k with
  | zero => rfl
  | succ k ih =>
    show e_up (e_up _ a _ _) o j _ o i = _
    rw [e_up_ne (Or.inr hi), e_up_row h, ih]
theorem c_fd_z {a o j t : Nat} {bs : Nat → Int32} {f : Nat → Nat → Int32} (h : f o j = nI t) : ∀ k, c_fd a o j t bs f k o j = nI (t + k) := by
  intro k
  induction k with
  | zero => exact h
  | succ k ih =>
    show e_up (e_up _ a _ _) o j _ o j = _
    rw [e_up_eq]
    rfl
theorem c_fd_a {a o j t : Nat} {bs : Nat → Int32} {f : Nat → Nat → Int32} (h : o ≠ a) : ∀ k q, c_fd a o j t bs f k a q = if t ≤ q ∧ q < t + k then bs (q - t) else f a q := by
  intro k
  induction k with
  | zero => intro q; rw [if_neg (by omega)]; rfl
  | succ k ih =>
    intro q
    show e_up (e_up _ a _ _) o j _ a q = _
    rw [e_up_row (Ne.symm h), e_up_at, ih]
    by_cases z : q = t + k
    · rw [if_pos z, if_pos (by omega)]
      congr 1
      omega
    · rw [if_neg z]
      by_cases y : t ≤ q ∧ q < t + k
      · rw [if_pos y, if_pos (by omega)]
      · rw [if_neg y, if_neg (by omega)]
def c_bs (a b c d e : Int32) : Nat → Int32 := fun k => if k = 0 then a else if k = 1 then b else if k = 2 then c else if k = 3 then d else e
theorem x10_byte (x : Int32) (g : e_G) : f_X10_isByte SS x g = some (s_in x 0 255, g) := by
  unfold f_X10_isByte
  rcases arg3 x 255 256 255 (by decide +kernel) (by decide +kernel) (by omega) with ⟨q1, q2⟩ | ⟨q1, q2, q3, q4, q5, q6⟩ | ⟨k, hk, e, q1, q2, q3, q4, q5, q6⟩
  · rw [if_pos q1, q2]
  · rw [if_neg q1, if_pos q3, q6]
  · rw [if_neg q1, if_neg q3, q6]
theorem x11_byte (x : Int32) (g : e_G) : f_X11_isByte SS x g = some (s_in x 0 255, g) := by
  unfold f_X11_isByte
  rw [m_in, Option.bind_some, if_pos (s_in01 x 0 255)]
theorem ok_feed : OK_feed SS Inv_ := by
  intro g a1 a b c d e hI
  obtain ⟨f, r⟩ := g
  obtain ⟨n, tc, tz, tk, s, h⟩ := hI
  have h : IN f r n tc tz tk s := h
  have hG : GG (f, r) := h.1.cs.1
  have no : ¬ (1 : Int32) = 0 := by decide
  have k1 : (1 : Int32).toInt = 1 := by decide +kernel
  have k0 : (0 : Int32).toInt = 0 := by decide +kernel
  have x2 : ∀ f1 : Nat → Nat → Int32, f_X11_feed SS 76 a1 a b c d e (f1, r) = if s_in a1 1 5 = 0 then some (-2, (f1, r)) else if s_in a 0 255 = 0 then some (-2, (f1, r)) else if s_in b 0 255 = 0 then some (-2, (f1, r)) else if s_in c 0 255 = 0 then some (-2, (f1, r)) else if s_in d 0 255 = 0 then some (-2, (f1, r)) else if s_in e 0 255 = 0 then some (-2, (f1, r)) else if f1 76 6 + a1 ≤ 160 then L_X11_feed_68 50000 SS 76 a1 a b c d e 0 (f1, r) else some (-4, (f1, r)) := by
    intro f1
    unfold f_X11_feed
    rw [if_pos ob11]
    simp only [m_in, x11_byte, Option.bind_some, gI_ok ob11]
  by_cases u : a1 < 1
  · have es : s_in a1 1 5 = 0 := by unfold s_in; rw [if_pos u]
    exact ask0 h (-2) (by unfold f_X10_feed; rw [if_pos ob10, if_pos u]) (by rw [x2, es, if_pos rfl])
  have u' : ¬ a1 < 0 := fun z => u (Int32.lt_iff_toInt_lt.mpr (by have := Int32.lt_iff_toInt_lt.mp z; omega))
  rcases arg3 a1 5 6 5 (by decide +kernel) (by decide +kernel) (by omega) with ⟨v1, -⟩ | ⟨-, v2, v3, v4, v5, v6⟩ | ⟨m, hm, rfl, v1, v2, v3, v4, v5, v6⟩
  · exact absurd v1 u'
  · have es : s_in a1 1 5 = 0 := by unfold s_in; rw [if_neg u, if_pos v2]
    exact ask0 h (-2) (by unfold f_X10_feed; rw [if_pos ob10, if_neg u, if_neg v4]) (by rw [x2, es, if_pos rfl])
  have es : s_in (nI m) 1 5 = 1 := by unfold s_in; rw [if_neg u, if_neg v2]
  have m0 : 0 < m := by
    by_cases z : m = 0
    · exfalso
      apply u
      rw [z]
      decide +kernel
    · omega
  have x1 : f_X10_feed SS 0 (nI m) a b c d e (f, r) = if s_in a 0 255 = 0 then some (-2, (f, r)) else if s_in b 0 255 = 0 then some (-2, (f, r)) else if s_in c 0 255 = 0 then some (-2, (f, r)) else if s_in d 0 255 = 0 then some (-2, (f, r)) else if s_in e 0 255 = 0 then some (-2, (f, r)) else if f 0 10 + nI m ≤ 160 then ((f_X10_feedOne SS 0 a (f, r)).bind fun q14 => if nI m ≤ 1 then J_X10_feed_84 SS 0 (nI m) c d e q14 else (f_X10_feedOne SS 0 b q14).bind fun q16 => J_X10_feed_84 SS 0 (nI m) c d e q16) else some (-4, (f, r)) := by
    unfold f_X10_feed
    rw [if_pos ob10, if_neg u, if_pos v4]
    simp only [x10_byte, Option.bind_some, gI_ok ob10]
  have X2 := x2
  by_cases ya : s_in a 0 255 = 0
  · exact ask0 h (-2) (by rw [x1, if_pos ya]) (by rw [x2, es, if_neg no, if_pos ya])
  by_cases yb : s_in b 0 255 = 0
  · exact ask0 h (-2) (by rw [x1, if_neg ya, if_pos yb]) (by rw [x2, es, if_neg no, if_neg ya, if_pos yb])
  by_cases yc : s_in c 0 255 = 0
  · exact ask0 h (-2) (by rw [x1, if_neg ya, if_neg yb, if_pos yc]) (by rw [x2, es, if_neg no, if_neg ya, if_neg yb, if_pos yc])
  by_cases yd : s_in d 0 255 = 0
  · exact ask0 h (-2) (by rw [x1, if_neg ya, if_neg yb, if_neg yc, if_pos yd]) (by rw [x2, es, if_neg no, if_neg ya, if_neg yb, if_neg yc, if_pos yd])
  by_cases ye : s_in e 0 255 = 0
  · exact ask0 h (-2) (by rw [x1, if_neg ya, if_neg yb, if_neg yc, if_neg yd, if_pos ye]) (by rw [x2, es, if_neg no, if_neg ya, if_neg yb, if_neg yc, if_neg yd, if_pos ye])
  have t10 : f 0 10 = nI tz := h.2.2.2.1.1
  have t6 : f 76 6 = nI tz := h.2.2.2.1.2.1
  have tl : tz ≤ 160 := h.2.2.2.1.2.2.1
  have k160 : (160 : Int32) = nI 160 := by decide +kernel
  by_cases full : tz + m ≤ 160
  rotate_left
  · have nf : ¬ nI tz + nI m ≤ 160 := by
      rw [nI_add, k160]
      exact nI_ge (by omega) (by omega)
    exact ask0 h (-4) (by rw [x1, if_neg ya, if_neg yb, if_neg yc, if_neg yd, if_neg ye, t10, if_neg nf]) (by rw [x2, es, if_neg no, if_neg ya, if_neg yb, if_neg yc, if_neg yd, if_neg ye, t6, if_neg nf])
  have nf : nI tz + nI m ≤ 160 := by
    rw [nI_add, k160]
    exact nI_le (by omega) (by omega)
  have byt : ∀ x : Int32, ¬ s_in x 0 255 = 0 → ∃ q, q < 256 ∧ x = nI q := by
    intro x hx
    rcases arg3 x 255 256 255 (by decide +kernel) (by decide +kernel) (by omega) with ⟨-, w⟩ | ⟨-, -, -, -, -, w⟩ | ⟨k, hk, e, -⟩
    · exact absurd w hx
    · exact absurd w hx
    · exact ⟨k, by omega, e⟩
  have hbs : ∀ k, ∃ q, q < 256 ∧ c_bs a b c d e k = nI q := by
    intro k
    unfold c_bs
    split
    · exact byt a ya
    · split
      · exact byt b yb
      · split
        · exact byt c yc
        · split
          · exact byt d yd
          · exact byt e ye
  obtain ⟨B, hB⟩ : ∃ B, B = c_bs a b c d e := ⟨_, rfl⟩
  rw [← hB] at hbs
  have B0 : B 0 = a := by rw [hB]; rfl
  have B1 : B 1 = b := by rw [hB]; rfl
  have B2 : B 2 = c := by rw [hB]; rfl
  have B3 : B 3 = d := by rw [hB]; rfl
  have B4 : B 4 = e := by rw [hB]; rfl
  -- the class
  have one : ∀ k, k < m → f_X10_feedOne SS 0 (B k) (c_fd 4 0 10 tz B f k, r) = some (c_fd 4 0 10 tz B f (k + 1), r) := by
    intro k hk
    have h10 : ∀ f, e_gR SS (f, r) 10 0 6 = some 4 := fun f => (rf10 (g := (f, r)) hG).2.2.2.2.2.2.1
    have z1 := c_fd_z (a := 4) (bs := B) t10 k
    unfold f_X10_feedOne
    rw [if_pos ob10, gI_ok ob10, Option.bind_some, show (c_fd 4 0 10 tz B f k, r).1 0 10 = nI (tz + k) from z1, if_pos (by rw [k160]; exact nI_lt (by omega) (by omega)), h10, Option.bind_some, Option.bind_some, aS_ok arC.2.2.1 (by omega) (by omega), Option.bind_some, gI_ok ob10, Option.bind_some]
    rw [show (e_up (c_fd 4 0 10 tz B f k, r).1 4 (tz + k) (B k), (c_fd 4 0 10 tz B f k, r).2).1 0 10 = nI (tz + k) by
      show e_up (c_fd 4 0 10 tz B f k) 4 (tz + k) (B k) 0 10 = _
      rw [e_up_row (by omega)]
      exact z1, sI_ok ob10, Option.bind_some, nI_1]
    rfl
  obtain ⟨F, hF⟩ : ∃ F, F = c_fd 4 0 10 tz B f m := ⟨_, rfl⟩
  have cls : f_X10_feed SS 0 (nI m) a b c d e (f, r) = some (nI (tz + m), (F, r)) := by
    rw [x1, if_neg ya, if_neg yb, if_neg yc, if_neg yd, if_neg ye, t10, if_pos nf]
    have z1 : F 0 10 = nI (tz + m) := by rw [hF]; exact c_fd_z t10 m
    have fin : J_X10_feed_117 SS 0 (F, r) = some (nI (tz + m), (F, r)) := by
      unfold J_X10_feed_117
      rw [gI_ok ob10, Option.bind_some, show (F, r).1 0 10 = nI (tz + m) from z1]
    have o0 := one 0
    have o1 := one 1
    have o2 := one 2
    have o3 := one 3
    have o4 := one 4
    rw [B0] at o0
    rw [B1] at o1
    rw [B2] at o2
    rw [B3] at o3
    rw [B4] at o4
    have o0' : f_X10_feedOne SS 0 a (f, r) = some (c_fd 4 0 10 tz B f 1, r) := o0 m0
    unfold J_X10_feed_84 J_X10_feed_95 J_X10_feed_106
    rw [o0', Option.bind_some]
    have le : ∀ q, q ≤ 5 → (nI m ≤ nI q ↔ m ≤ q) := fun q hq => nI_leI (by omega) (by omega)
    have K1 : (1 : Int32) = nI 1 := by decide +kernel
    have K2 : (2 : Int32) = nI 2 := by decide +kernel
    have K3 : (3 : Int32) = nI 3 := by decide +kernel
    have K4 : (4 : Int32) = nI 4 := by decide +kernel
    have C1 : (nI m ≤ 1) = (m ≤ 1) := propext (by rw [K1]; exact le 1 (by omega))
    have C2 : (nI m ≤ 2) = (m ≤ 2) := propext (by rw [K2]; exact le 2 (by omega))
    have C3 : (nI m ≤ 3) = (m ≤ 3) := propext (by rw [K3]; exact le 3 (by omega))
    have C4 : (nI m ≤ 4) = (m ≤ 4) := propext (by rw [K4]; exact le 4 (by omega))
    simp only [C1, C2, C3, C4]
    by_cases y1 : m ≤ 1
    · rw [if_pos y1, if_pos (show m ≤ 2 by omega), if_pos (show m ≤ 3 by omega), if_pos (show m ≤ 4 by omega)]
      have : m = 1 := by omega
      subst this
      rw [← hF]
      exact fin
    · rw [if_neg y1, o1 (by omega), Option.bind_some]
      by_cases y2 : m ≤ 2
      · rw [if_pos y2, if_pos (show m ≤ 3 by omega), if_pos (show m ≤ 4 by omega)]
        have : m = 2 := by omega
        subst this
        rw [← hF]
        exact fin
      · rw [if_neg y2, o2 (by omega), Option.bind_some]
        by_cases y3 : m ≤ 3
        · rw [if_pos y3, if_pos (show m ≤ 4 by omega)]
          have : m = 3 := by omega
          subst this
          rw [← hF]
          exact fin
        · rw [if_neg y3, o3 (by omega), Option.bind_some]
          by_cases y4 : m ≤ 4
          · rw [if_pos y4]
            have : m = 4 := by omega
            subst this
            rw [← hF]
            exact fin
          · rw [if_neg y4, o4 (by omega), Option.bind_some]
            have : m = 5 := by omega
            subst this
            rw [← hF]
            exact fin
  have F_row : ∀ q, q ≠ 4 → q ≠ 0 → F q = f q := fun q h1 h2 => by rw [hF]; exact c_fd_row h1 h2 m
  have F6 : F 76 6 = nI tz := by rw [F_row 76 (by omega) (by omega)]; exact t6
  -- the reference
  have r80 : ∀ f, e_gR SS (f, r) 11 76 5 = some 80 := fun f => (rf11 (g := (f, r)) hG).2.2.2.1
  have A80 : ArA 0 80 160 := by unfold ArA; decide +kernel
  have key := loopR (L := fun q k (x : Nat → Nat → Int32) => L_X11_feed_68 q SS 76 (nI m) a b c d e k (x, r)) (n := m)
    (I := fun k x => x = c_fd 80 76 6 tz B F k)
    (P := fun q => q = (nI (tz + m), (c_fd 80 76 6 tz B F m, r)))
    (fun q x hI => by
      subst hI
      refine ⟨_, ?_, rfl⟩
      show L_X11_feed_68 (q + 1) SS 76 (nI m) a b c d e (nI m) (c_fd 80 76 6 tz B F m, r) = _
      rw [L_X11_feed_68, if_pos (nI_le (Nat.le_refl m) (by omega)), gI_ok ob11, Option.bind_some, show (c_fd 80 76 6 tz B F m, r).1 76 6 = nI (tz + m) from c_fd_z F6 m])
    (fun q k x hk hI => by
      subst hI
      refine ⟨c_fd 80 76 6 tz B F (k + 1), ?_, rfl⟩
      show L_X11_feed_68 (q + 1) SS 76 (nI m) a b c d e (nI k) (c_fd 80 76 6 tz B F k, r) = _
      have z1 := c_fd_z (a := 80) (bs := B) F6 k
      have fin : ∀ v, v = B k → J_X11_feed_125 (L_X11_feed_68 q SS) SS 76 (nI m) a b c d e (nI k) 80 (nI (tz + k)) v (c_fd 80 76 6 tz B F k, r) = L_X11_feed_68 q SS 76 (nI m) a b c d e (nI (k + 1)) (c_fd 80 76 6 tz B F (k + 1), r) := by
        intro v ev
        subst ev
        unfold J_X11_feed_125
        rw [aS_ok A80 (by omega) (by omega), Option.bind_some, gI_ok ob11, Option.bind_some]
        rw [show (e_up (c_fd 80 76 6 tz B F k, r).1 80 (tz + k) (B k), (c_fd 80 76 6 tz B F k, r).2).1 76 6 = nI (tz + k) by
          show e_up (c_fd 80 76 6 tz B F k) 80 (tz + k) (B k) 76 6 = _
          rw [e_up_row (by omega)]
          exact z1, sI_ok ob11, Option.bind_some, nI_1, nI_1]
        rfl
      rw [L_X11_feed_68, if_neg (nI_ge hk (by omega)), r80, Option.bind_some, gI_ok ob11, Option.bind_some, show (c_fd 80 76 6 tz B F k, r).1 76 6 = nI (tz + k) from z1]
      have q0 : (nI k = 0) = (k = 0) := propext ⟨fun z => nI_inj (by omega) (by omega) (z.trans nI_0.symm), fun z => by rw [z, nI_0]⟩
      have q1 : (nI k = 1) = (k = 1) := propext (nI_eq (a := k) (b := 1) (by omega) (by omega))
      have q2 : (nI k = 2) = (k = 2) := propext (nI_eq (a := k) (b := 2) (by omega) (by omega))
      have q3 : (nI k = 3) = (k = 3) := propext (nI_eq (a := k) (b := 3) (by omega) (by omega))
      simp only [q0, q1, q2, q3]
      by_cases w0 : k = 0
      · rw [if_pos w0]; exact fin a (by rw [w0, B0])
      · rw [if_neg w0]
        by_cases w1 : k = 1
        · rw [if_pos w1]; exact fin b (by rw [w1, B1])
        · rw [if_neg w1]
          by_cases w2 : k = 2
          · rw [if_pos w2]; exact fin c (by rw [w2, B2])
          · rw [if_neg w2]
            by_cases w3 : k = 3
            · rw [if_pos w3]; exact fin d (by rw [w3, B3])
            · rw [if_neg w3]; exact fin e (by rw [show k = 4 by omega, B4]))
    m 0 50000 F (by omega) (by omega) rfl
  rw [nI_0] at key
  obtain ⟨q, kq1, kq2⟩ := key
  obtain ⟨F2, hF2⟩ : ∃ F2, F2 = c_fd 80 76 6 tz B F m := ⟨_, rfl⟩
  have all : ∀ q, q ≠ 4 → q ≠ 0 → q ≠ 80 → q ≠ 76 → F2 q = f q := fun q h1 h2 h3 h4 => by rw [hF2, c_fd_row h3 h4 m, F_row q h1 h2]
  have a0 : ∀ j, j ≠ 10 → F2 0 j = f 0 j := fun j hj => by rw [hF2, c_fd_row (by omega) (by omega) m, hF]; exact c_fd_o (by omega) hj m
  have a76 : ∀ j, j ≠ 6 → F2 76 j = f 76 j := fun j hj => by rw [hF2, c_fd_o (by omega) hj m, F_row 76 (by omega) (by omega)]
  refine do_ (nI (tz + m)) (f1 := F) (f2 := F2) (n := n) (tc := tc) (tz := tz + m) (tk := tk) (s := s) cls ?_ ⟨?_, ?_, ?_⟩
  · rw [x2, es, if_neg no, if_neg ya, if_neg yb, if_neg yc, if_neg yd, if_neg ye, F6, if_pos nf]
    exact kq1.trans (by rw [kq2, hF2])
  · exact h.1.of2 (fun j hj => all _ (by omega) (by omega) (by omega) (by omega)) (fun q x1 x2 _ => all q (by omega) (by omega) (by omega) (by omega))
  · exact h.2.1.of (a76 0 (by omega)) (a76 4 (by omega)) (a76 10 (by omega)) (all 77 (by omega) (by omega) (by omega) (by omega)) (all 78 (by omega) (by omega) (by omega) (by omega)) (fun j _ => by rw [all 79 (by omega) (by omega) (by omega) (by omega)]) (all 81 (by omega) (by omega) (by omega) (by omega)) (all 82 (by omega) (by omega) (by omega) (by omega))
  · obtain ⟨⟨g1, g2, g3⟩, ⟨b1, b2, b3, b4⟩, h3, h4, h5, h6, h7⟩ := h.2.2
    have e85 : ∀ q, 83 ≤ q → F2 q = f q := fun q hq => all q (by omega) (by omega) (by omega) (by omega)
    refine ⟨⟨(a0 9 (by omega)).trans g1, (a76 9 (by omega)).trans g2, g3⟩, ⟨?_, ?_, full, fun k hk => ?_, by rw [e85 89 (by omega)]; exact b4.2⟩, fun t ht => ?_, h4, h5, fun i hi => ?_, ?_⟩
    · rw [hF2, c_fd_row (by omega) (by omega) m, hF]; exact c_fd_z t10 m
    · rw [hF2]; exact c_fd_z F6 m
    · have w1 : F2 4 k = if tz ≤ k ∧ k < tz + m then B (k - tz) else f 4 k := by rw [hF2, c_fd_row (by omega) (by omega) m, hF]; exact c_fd_a (by omega) m k
      have w2 : F2 80 k = if tz ≤ k ∧ k < tz + m then B (k - tz) else f 80 k := by rw [hF2, c_fd_a (by omega) m k, F_row 80 (by omega) (by omega)]
      rw [w1, w2]
      by_cases y : tz ≤ k ∧ k < tz + m
      · rw [if_pos y, if_pos y]
        obtain ⟨q, q1, q2⟩ := hbs (k - tz)
        exact ⟨q, q1, q2, q2⟩
      · rw [if_neg y, if_neg y]
        exact b4.1 k (by omega)
    · obtain ⟨c1, c2, c3⟩ := h3 t ht
      exact ⟨c1.of (all _ (by omega) (by omega) (by omega) (by omega)) (all _ (by omega) (by omega) (by omega) (by omega)) (all _ (by omega) (by omega) (by omega) (by omega)), c2.of (all 81 (by omega) (by omega) (by omega) (by omega)) (all 82 (by omega) (by omega) (by omega) (by omega)), c3⟩
    · obtain ⟨so, z, c1, c2, c3, c4, c5, c6⟩ := h6 i hi
      refine ⟨so, z, ?_, ?_, ?_, ?_, c5, fun k hk => ?_⟩
      · rw [all _ (by omega) (by omega) (by omega) (by omega)]; exact c1
      · rw [e85 85 (by omega)]; exact c2
      · rw [all _ (by omega) (by omega) (by omega) (by omega)]; exact c3
      · rw [e85 86 (by omega)]; exact c4
      · rw [all (38 + 2 * i) (by omega) (by omega) (by omega) (by omega), e85 87 (by omega)]; exact c6 k hk
    · rw [a0 11 (by omega), a76 11 (by omega)]
      rcases h7 with y | ⟨y1, y2, ni, si, z1, z2, z3, z4, z5, z6, z7, z8, z9, z10⟩
      · exact Or.inl y
      · exact Or.inr ⟨y1, y2, ni, si, z1, z2.of2 (fun j hj => all _ (by omega) (by omega) (by omega) (by omega)) (fun q x1 x2 _ => all q (by omega) (by omega) (by omega) (by omega)), z3, z4, z5, z6, by rw [e85 84 (by omega)]; exact z7, by rw [e85 84 (by omega)]; exact z8, by rw [e85 84 (by omega)]; exact z9, by rw [e85 83 (by omega)]; exact z10⟩
