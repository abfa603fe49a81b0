/-! untangle: alike -/
def w_unr (s : Nat → Nat → Int32) (M : Nat → Nat) (m n : Nat) (num : Nat) (a : Int32 × Int32) : Int32 × Int32 := if u_pm m m num 0 = true then (if a.2 = -1 then (w_C s M (u_q m num) m n, nI (u_dg m m num 1 0)) else if a.1 ≤ w_C s M (u_q m num) m n then a else (w_C s M (u_q m num) m n, nI (u_dg m m num 1 0))) else a
theorem mw_unt {f : Nat → Nat → Int32} {r : Nat → Nat → Option Nat} {n : Nat} {tk : Nat → Nat → List (Nat × Int32)} {s : Nat → Nat → Int32} {M : Nat → Nat} {m : Nat} (m1 : 1 ≤ m) (m6 : m ≤ 6) (hM : MJ M m n) (hOp : ∀ i o, i < m → o < m → s_opp (s 1 (M i)) (s 2 (M o)) = 1) (hW : MW f r n tk s) (hR : RM f M s m) (l2 : Int32) {N : Nat} (hN : N < 49999) : ∃ f', (f_X11_keepsAll SS 76 (f, r)).bind (fun q4 => L_X11_untangle_86 50000 SS 76 l2 (nI N) (-1) 0 0 q4) = some (if l2 = 0 then (itF (w_unr s M m n) N 0 (0, -1)).2 else (itF (w_unr s M m n) N 0 (0, -1)).1, (f', r)) ∧ KM f f' := by
  have hG : GG (f, r) := hW.1.1
  obtain ⟨f1, c1, c2, c3, c4⟩ := m_keep hG
  have hW1 : MW f1 r n tk s := hW.km ⟨fun b h1 _ _ => c2 b (by omega), fun k _ => by rw [c2 79 (by omega)], fun k _ => by rw [c2 76 (by omega)]⟩
  have hR1 : RM f1 M s m := ⟨by rw [c2 76 (by omega)]; exact hR.1, fun k h => by rw [c2 94 (by omega), c2 95 (by omega)]; exact hR.2 k h⟩
  have key := loopY (L := fun q i (x : (Int32 × Int32) × (Nat → Nat → Int32)) => L_X11_untangle_86 q SS 76 l2 (nI N) x.1.2 x.1.1 i (x.2, r)) (n := N) (F := w_unr s M m n)
    (I := fun _ a x => x.1 = a ∧ (∃ t, MW x.2 r n tk t ∧ UO s M m t) ∧ RM x.2 M s m ∧ (∀ b, b ≠ 79 → b ≠ 76 → x.2 b = f1 b) ∧ ∀ k, k ≠ 33 → x.2 76 k = f1 76 k)
    (P := fun a q => ∃ f', q = (if l2 = 0 then a.2 else a.1, (f', r)) ∧ KM f f')
    (fun q a x hI => by
      obtain ⟨i1, ⟨t, i2, i3⟩, i4, i5, i6⟩ := hI
      obtain ⟨f3, d1, d2, d3, d4, d5⟩ := m_lay (f := x.2) (r := r) hG
      refine ⟨(if l2 = 0 then a.2 else a.1, (f3, r)), ?_, f3, rfl, fun b h1 h2 h3 => by rw [d2 b h2 h3, i5 b h2 h3, c2 b (by omega)], fun k hk => by rw [d3 k hk, i5 93 (by omega) (by omega), c3 k hk], fun k hk => ?_⟩
      · show L_X11_untangle_86 (q + 1) SS 76 l2 (nI N) x.1.2 x.1.1 (nI N) (x.2, r) = _
        rw [L_X11_untangle_86, if_pos (nI_le (Nat.le_refl N) (by omega)), d1, Option.bind_some, i1]
        split <;> rfl
      · by_cases z : k = 4
        · rw [z, d5, i5 93 (by omega) (by omega), c4]
        · rw [d4 k z, i6 k (by omega), c2 76 (by omega)])
    (fun q i a x hi hI => by
      obtain ⟨rfl, ⟨t, i2, i3⟩, i4, i5, i6⟩ := hI
      obtain ⟨f2, t2, g1, g2, g3, g4, g5, g6⟩ := mw_gives m1 m6 hM hOp i2 i3 i4 (num := i) (by omega)
      have hR2 : RM f2 M s m := ⟨(g6 32 (by omega)).trans i4.1, fun k h => by rw [g5 94 (by omega) (by omega), g5 95 (by omega) (by omega)]; exact i4.2 k h⟩
      have b2 : ∀ b, b ≠ 79 → b ≠ 76 → f2 b = f1 b := fun b h1 h2 => (g5 b h1 h2).trans (i5 b h1 h2)
      have k2 : ∀ k, k ≠ 33 → f2 76 k = f1 76 k := fun k h => (g6 k h).trans (i6 k h)
      show ∃ s' : (Int32 × Int32) × (Nat → Nat → Int32), L_X11_untangle_86 (q + 1) SS 76 l2 (nI N) x.1.2 x.1.1 (nI i) (x.2, r) = L_X11_untangle_86 q SS 76 l2 (nI N) s'.1.2 s'.1.1 (nI (i + 1)) (s'.2, r) ∧ _
      rw [L_X11_untangle_86, if_neg (nI_ge hi (by omega)), g1, Option.bind_some]
      unfold w_unr
      by_cases y : u_pm m m i 0 = true
      · rw [if_pos y, if_pos y, if_neg (show ¬ (1 : Int32) = 0 by decide), mw_cross g2, Option.bind_some, g3.cross hM]
        have take : J_X11_untangle_120 (L_X11_untangle_86 q SS) SS 76 l2 (nI N) x.1.2 x.1.1 (nI i) (w_C s M (u_q m i) m n) (f2, r) = L_X11_untangle_86 q SS 76 l2 (nI N) (nI (u_dg m m i 1 0)) (w_C s M (u_q m i) m n) (nI (i + 1)) (f2, r) := by
          rw [J_X11_untangle_120, J_X11_untangle_125, if_neg (show ¬ (1 : Int32) = 0 by decide), gI_ok ob11, Option.bind_some, show (f2, r).1 76 33 = _ from g4, J_X11_untangle_141, if_neg (show ¬ (1 : Int32) = 0 by decide), J_X11_untangle_155, J_X11_untangle_157, nI_1]
        have keep : J_X11_untangle_125 (L_X11_untangle_86 q SS) SS 76 l2 (nI N) x.1.2 x.1.1 (nI i) (w_C s M (u_q m i) m n) 0 (f2, r) = L_X11_untangle_86 q SS 76 l2 (nI N) x.1.2 x.1.1 (nI (i + 1)) (f2, r) := by
          rw [J_X11_untangle_125, if_pos rfl, J_X11_untangle_141, if_pos rfl, J_X11_untangle_155, J_X11_untangle_157, nI_1]
        by_cases z : x.1.2 = -1
        · rw [if_pos z, if_pos z, take]
          exact ⟨((w_C s M (u_q m i) m n, nI (u_dg m m i 1 0)), f2), rfl, rfl, ⟨t2, g2, g3.1⟩, hR2, b2, k2⟩
        · rw [if_neg z, if_neg z]
          by_cases w : x.1.1 ≤ w_C s M (u_q m i) m n
          · rw [if_pos w, if_pos w, keep]
            exact ⟨(x.1, f2), rfl, rfl, ⟨t2, g2, g3.1⟩, hR2, b2, k2⟩
          · rw [if_neg w, if_neg w, take]
            exact ⟨((w_C s M (u_q m i) m n, nI (u_dg m m i 1 0)), f2), rfl, rfl, ⟨t2, g2, g3.1⟩, hR2, b2, k2⟩
      · rw [if_neg y, if_neg y, if_pos rfl, J_X11_untangle_157, nI_1]
        exact ⟨(x.1, f2), rfl, rfl, ⟨t2, g2, g3.1⟩, hR2, b2, k2⟩)
    N 0 50000 (0, -1) ((0, -1), f1) (by omega) (by omega) ⟨rfl, ⟨s, hW1, fun _ _ => rfl, fun _ _ => rfl⟩, hR1, fun _ _ _ => rfl, fun _ _ => rfl⟩
  have h0 : nI 0 = (0 : Int32) := nI_0
  rw [h0] at key
  obtain ⟨q, k1, f', k2, k3⟩ := key
  refine ⟨f', ?_, k3⟩
  rw [c1, Option.bind_some]
  exact k1.trans (by rw [k2])
theorem x11_unt51 {f : Nat → Nat → Int32} {r : Nat → Nat → Option Nat} {m : Nat} (m6 : m ≤ 6) (h32 : f 76 32 = nI m) (l2 : Int32) : ∀ k i fu, i + k = m → k < fu → L_X11_untangle_51 fu SS 76 l2 (nI (m ^ i)) (nI i) (f, r) = (f_X11_keepsAll SS 76 (f, r)).bind (fun q4 => L_X11_untangle_86 50000 SS 76 l2 (nI (m ^ m)) (-1) 0 0 q4) := by
  intro k
  induction k with
  | zero =>
    intro i fu hi hf
    obtain ⟨fu, rfl⟩ : ∃ q, fu = q + 1 := ⟨fu - 1, by omega⟩
    obtain rfl : i = m := by omega
    rw [L_X11_untangle_51, gI_ok ob11, Option.bind_some, show (f, r).1 76 32 = nI i from h32, if_pos (nI_le (Nat.le_refl i) (by omega))]
  | succ k ih =>
    intro i fu hi hf
    obtain ⟨fu, rfl⟩ : ∃ q, fu = q + 1 := ⟨fu - 1, by omega⟩
    rw [L_X11_untangle_51, gI_ok ob11, Option.bind_some, show (f, r).1 76 32 = nI m from h32, if_neg (nI_ge (by omega) (by omega)), Option.bind_some, show nI (m ^ i) * nI m = nI (m ^ (i + 1)) from (Int32.ofNat_mul _ _).symm, nI_1]
    exact ih (i + 1) fu (by omega) (by omega)
theorem u_dc_lt {q : Nat → Nat} {m : Nat} (h : ∀ k, k < m → q k < 9) : ∀ k, k ≤ m → u_dc q k < 10 ^ k := by
  intro k
  induction k with
  | zero => intro _; exact Nat.one_pos
  | succ k ih =>
    intro hk
    have := ih (by omega)
    have := h k (by omega)
    rw [u_dc, Nat.pow_succ]
    omega
theorem u_dc_c {a b : Nat → Nat} {m : Nat} (h : ∀ k, k < m → a k = b k) : ∀ k, k ≤ m → u_dc a k = u_dc b k := by
  intro k
  induction k with
  | zero => intro _; rfl
  | succ k ih => intro hk; rw [u_dc, u_dc, ih (by omega), h k (by omega)]
theorem u_dc_ne {m : Nat} (m1 : 1 ≤ m) (m6 : m ≤ 6) (num : Nat) : ¬ nI (u_dc (u_q m num) m) = -1 := by
  have h := u_dc_lt (q := u_q m num) (m := m) (fun k _ => by have := u_q_lt (show 0 < m by omega) num k; omega) m (Nat.le_refl m)
  have : 10 ^ m ≤ 10 ^ 6 := Nat.pow_le_pow_right (by omega) m6
  exact nI_ne_m1 (by omega)
theorem u_dk_eq {m n : Nat} (h : u_dk m n = true) : u_dg m m n 1 0 = u_dc (u_q m n) m := Nat.eq_of_beq_eq_true h
theorem u_go_some {m k n n0 c : Nat} {x : Nat × Nat} (h : u_go m (k + 1) n n0 c = some x) : ∃ q, u_st m n n0 c = some q ∧ u_go m k (n + 1) q.1 q.2 = some x := by
  rw [u_go] at h
  cases e : u_st m n n0 c with
  | none => rw [e] at h; cases h
  | some q => rw [e] at h; exact ⟨q, rfl, h⟩
theorem u_st_dk {m n n0 c : Nat} {q : Nat × Nat} (h : u_st m n n0 c = some q) (y : u_pm m m n 0 = true) : u_dk m n = true := by
  unfold u_st at h
  rw [if_pos y] at h
  by_cases yd : u_dk m n = true
  · exact yd
  · rw [if_neg yd] at h; cases h
theorem u_sameF {s : Nat → Nat → Int32} {M : Nat → Nat} {m n : Nat} (m1 : 1 ≤ m) (m6 : m ≤ 6) {n1 c1 : Nat} : ∀ k num n0 c, u_go m k num n0 c = some (n1, c1) → ∀ a : Int32 × Int32, a.2 ≠ -1 → itF (w_unr s M m n) k num a = itF (w_unt s M m n) k num a := by
  intro k
  induction k with
  | zero => intros; rfl
  | succ k ih =>
    intro num n0 c hg a ha
    obtain ⟨q, hs, hg⟩ := u_go_some hg
    rw [itF, itF]
    by_cases y : u_pm m m num 0 = true
    rotate_left
    · have e : w_unr s M m n num a = w_unt s M m n num a := by unfold w_unt w_unr; rw [if_neg y, if_neg y]
      have e2 : w_unt s M m n num a = a := by unfold w_unt; rw [if_neg y]
      rw [e, e2]
      exact ih _ _ _ hg a ha
    · have yd := u_st_dk hs y
      have e : w_unr s M m n num a = w_unt s M m n num a := by unfold w_unt w_unr; rw [if_pos y, if_pos y, if_neg ha, u_dk_eq yd]
      rw [e]
      have ha' : (w_unt s M m n num a).2 ≠ -1 := by
        unfold w_unt
        rw [if_pos y]
        split
        · exact ha
        · exact u_dc_ne m1 m6 num
      exact ih _ _ _ hg _ ha'
theorem u_fold {s : Nat → Nat → Int32} {M : Nat → Nat} {m n : Nat} {n1 c1 : Nat} (hc : c1 ≤ 719) (x : Int32) : ∀ k num n0, u_go m k num n0 720 = some (n1, c1) → ∃ num' k', u_go m k' (num' + 1) num' 719 = some (n1, c1) ∧ u_idn m num' = true ∧ itF (w_unr s M m n) k num (x, -1) = itF (w_unr s M m n) k' (num' + 1) (w_C s M (u_q m num') m n, nI (u_dc (u_q m num') m)) := by
  intro k
  induction k with
  | zero => intro num n0 hg; cases hg; omega
  | succ k ih =>
    intro num n0 hg
    rw [u_go] at hg
    unfold u_st at hg
    rw [itF]
    by_cases y : u_pm m m num 0 = true
    rotate_left
    · rw [if_neg y] at hg
      have e2 : w_unr s M m n num (x, -1) = (x, -1) := by unfold w_unr; rw [if_neg y]
      rw [e2]
      exact ih _ _ hg
    · rw [if_pos y] at hg
      by_cases yd : u_dk m num = true
      rotate_left
      · rw [if_neg yd] at hg; cases hg
      rw [if_pos yd] at hg
      have hg : (match (if 719 = 719 then (if u_idn m num = true then some (num, 719) else none) else if u_ok m n0 num = true then some (num, 719) else none : Option (Nat × Nat)) with
          | none => none
          | some q => u_go m k (num + 1) q.1 q.2) = some (n1, c1) := hg
      rw [if_pos rfl] at hg
      by_cases yi : u_idn m num = true
      rotate_left
      · rw [if_neg yi] at hg; cases hg
      rw [if_pos yi] at hg
      have e2 : w_unr s M m n num (x, -1) = (w_C s M (u_q m num) m n, nI (u_dc (u_q m num) m)) := by unfold w_unr; rw [if_pos y, if_pos rfl, u_dk_eq yd]
      rw [e2]
      exact ⟨num, k, hg, yi, rfl⟩
theorem MW.opp {f : Nat → Nat → Int32} {r : Nat → Nat → Option Nat} {n : Nat} {tk : Nat → Nat → List (Nat × Int32)} {s : Nat → Nat → Int32} (h : MW f r n tk s) (sd : Int32) {p q : Nat} (hp : p < n) (hq : q < n) (h1 : w_P s sd p = true) (h2 : w_P s sd q = true) : s_opp (s 1 p) (s 2 q) = 1 := by
  obtain ⟨a, a', ha, ha', e1, e2, e3⟩ := (h.2.2.1.1 p hp).1
  obtain ⟨b, b', hb, hb', e4, e5, e6⟩ := (h.2.2.1.1 q hq).1
  have k20 : (20 : Int32) = nI 20 := by decide +kernel
  have d1 : s 1 p / 10 = sd := of_decide_eq_true h1
  have d2 : s 1 q / 10 = sd := of_decide_eq_true h2
  rw [e1, k_10, nI_div (by omega) (by omega)] at d1
  rw [e4, k_10, nI_div (by omega) (by omega)] at d2
  have e := nI_inj (by omega) (by omega) (d1.trans d2.symm)
  rw [e1, e5]
  unfold s_opp
  rw [if_neg]
  rw [k20]
  rintro (z | z | z | z | z)
  · exact nI_pos (by omega) z
  · exact nI_ge (show a < 20 by omega) (by omega) z
  · exact nI_pos (by omega) z
  · exact nI_ge (show b' < 20 by omega) (by omega) z
  · rw [k_10, nI_div (by omega) (by omega), nI_div (by omega) (by omega)] at z
    have := nI_inj (by omega) (by omega) z
    omega
theorem ok_untangle : OK_untangle SS Inv_ := by
  intro g a1 a2 hI
  obtain ⟨f, r⟩ := g
  obtain ⟨n, tc, tz, tk, s, h⟩ := hI
  have h : IN f r n tc tz tk s := h
  have hG : GG (f, r) := h.1.cs.1
  have h10 := rf10 hG
  have hw := h.2.1.2.2.1
  have n6 := h.1.le
  have no : ¬ (1 : Int32) = 0 := by decide
  rcases arg3 a1 1 2 1 (by decide +kernel) (by decide +kernel) (by omega) with ⟨q1, q2⟩ | ⟨q1, q2, q3, q4, q5, q6⟩ | ⟨d, hd, e, q1, q2, q3, q4, q5, q6⟩
  · exact ask0 h (-2) (by unfold f_X10_untangle; rw [if_pos ob10, if_pos q1]) (by unfold f_X11_untangle; rw [if_pos ob11, m_in, Option.bind_some, q2]; rfl)
  · exact ask0 h (-2) (by unfold f_X10_untangle; rw [if_pos ob10, if_neg q1, if_pos q2]) (by unfold f_X11_untangle; rw [if_pos ob11, m_in, Option.bind_some, q6]; rfl)
  rcases arg3 a2 1 2 1 (by decide +kernel) (by decide +kernel) (by omega) with ⟨p1, p2⟩ | ⟨p1, p2, p3, p4, p5, p6⟩ | ⟨d', hd', e', p1, p2, p3, p4, p5, p6⟩
  · exact ask0 h (-2) (by unfold f_X10_untangle; rw [if_pos ob10, if_neg q1, if_neg q2, if_pos p1]) (by unfold f_X11_untangle; rw [if_pos ob11, m_in, Option.bind_some, q6, if_neg no, m_in, Option.bind_some, p2]; rfl)
  · exact ask0 h (-2) (by unfold f_X10_untangle; rw [if_pos ob10, if_neg q1, if_neg q2, if_neg p1, if_neg p4]) (by unfold f_X11_untangle; rw [if_pos ob11, m_in, Option.bind_some, q6, if_neg no, m_in, Option.bind_some, p6]; rfl)
  clear e e'
  obtain ⟨m, hm⟩ : ∃ m, m = (u_M (w_P s a1) n).length := ⟨_, rfl⟩
  obtain ⟨M, hMM⟩ : ∃ M : Nat → Nat, M = fun k => (u_M (w_P s a1) n).getD k 0 := ⟨_, rfl⟩
  have hM : MJ M m n := by rw [hMM, hm]; exact u_M_mj _ n
  have m6 : m ≤ 6 := by have := u_M_len (w_P s a1) n; omega
  have hP : ∀ k, k < m → w_P s a1 (M k) = true := fun k hk => by rw [hMM]; exact (u_M_get _ n k (by omega)).2
  have hOp : ∀ i o, i < m → o < m → s_opp (s 1 (M i)) (s 2 (M o)) = 1 := fun i o hi ho => h.2.1.opp a1 (hM.1 i hi) (hM.1 o ho) (hP i hi) (hP o ho)
  -- the class
  obtain ⟨f1, b1, b2, b3, b4⟩ := x10_gather h.1 a1
  rw [← hm] at b1 b3 b4
  rw [← hMM] at b3
  have kt1 : KT6 f f1 := KT6.of fun b h5 h6 _ => b2 b h5 h6
  obtain ⟨f2, d1, d2, d3⟩ := sq_think (h.1.kt6 (Or.inl rfl) kt1) hw
  have kt2 : KT6 f f2 := kt1.trans d2.six
  have h522 : SQ f2 r 52 n tk s := h.1.kt6 (Or.inl rfl) kt2
  have hD2 : MD f2 M m := fun k hk => by rw [d2 5 (by unfold NS; omega) (by omega)]; exact b3 k hk
  have hO2 : OD f2 (fun k => k) m := fun k hk => by rw [d2 6 (by unfold NS; omega) (by omega)]; exact b4 k hk
  have X1 : f_X10_untangle SS 0 a1 a2 (f, r) = L_X10_untangle_57 50000 SS 0 a2 (nI m) (s_cross (s 1) (s 2) n) (nI (u_dc (fun k => k) m)) 1 (f2, r) := by
    unfold f_X10_untangle
    rw [if_pos ob10, if_neg q1, if_neg q2, if_neg p1, if_pos p4, b1, Option.bind_some, (rf10 (g := (f1, r)) hG).2.2.2.1, Option.bind_some, (rf10 (g := (f1, r)) hG).2.2.1, Option.bind_some, d1, Option.bind_some, (rf10 (g := (f2, r)) hG).2.2.1, Option.bind_some, sq_cross h522, Option.bind_some, x10_digits hG m6 hO2, Option.bind_some]
  -- the reference
  have X2 : ∀ f3, IN f3 r n tc tz tk s → ∃ f4, f_X11_tellsSide SS 76 a1 (f3, r) = some (f4, r) ∧ KM f3 f4 ∧ MW f4 r n tk s ∧ RM f4 M s m ∧ f_X11_untangle SS 76 a1 a2 (f3, r) = if nI m = 0 then (if a2 = 0 then some (0, (f4, r)) else (f_X11_crossing SS 76 (f4, r)).bind fun q10 => some (q10.1, q10.2)) else L_X11_untangle_51 50000 SS 76 a2 1 0 (f4, r) := by
    intro f3 h3
    obtain ⟨f4, e1, e2, e3, e4⟩ := mw_tells h3.2.1 a1
    rw [← hm] at e4
    rw [← hMM] at e4
    have km : KM f3 f4 := ⟨fun b h1 _ h3 => e2 b (by omega) (by omega) h3, fun k _ => by rw [e2 79 (by omega) (by omega) (by omega)], fun k _ => e3 k (by omega)⟩
    refine ⟨f4, e1, km, h3.2.1.km km, e4, ?_⟩
    unfold f_X11_untangle
    rw [if_pos ob11, m_in, Option.bind_some, q6, if_neg no, m_in, Option.bind_some, p6, if_neg no, e1, Option.bind_some, gI_ok ob11, Option.bind_some, show (f4, r).1 76 32 = nI m from e4.1]
  by_cases y : m = 0
  · subst y
    refine (fun (w : Int32) (hA : ∃ f1, f_X10_untangle SS 0 a1 a2 (f, r) = some (w, (f1, r)) ∧ KT6 f f1) (hB : ∀ f1, IN f1 r n tc tz tk s → ∃ f2, f_X11_untangle SS 76 a1 a2 (f1, r) = some (w, (f2, r)) ∧ KM f1 f2) => ?_) (if a2 = 0 then 0 else s_cross (s 1) (s 2) n) ?_ ?_
    · obtain ⟨f5, a1', a2'⟩ := hA
      have h1 := h.kt6 a2'
      obtain ⟨f6, b1', b2'⟩ := hB f5 h1
      exact ⟨w, (f5, r), (f6, r), a1', b1', n, tc, tz, tk, s, h1.km b2'⟩
    · refine ⟨f2, ?_, kt2⟩
      have nx : f_X10_nextOrder SS 0 (nI 0) (f2, r) = some (0, (f2, r)) := by
        unfold f_X10_nextOrder
        rw [if_pos ob10]
        show L_X10_nextOrder_4 (49999 + 1) SS 0 (nI 0) (nI 0 - 2) (f2, r) = _
        rw [L_X10_nextOrder_4, if_pos (show nI 0 - (2 : Int32) < 0 by decide +kernel)]
        unfold J_X10_nextOrder_31
        rw [if_neg (show ¬ (0 : Int32) ≤ nI 0 - 2 by decide +kernel)]
      rw [X1]
      show L_X10_untangle_57 (49999 + 1) SS 0 a2 (nI 0) _ (nI (u_dc (fun k => k) 0)) 1 (f2, r) = _
      rw [L_X10_untangle_57, if_neg (show ¬ (720 : Int32) ≤ 1 by decide +kernel), nx, Option.bind_some, if_pos rfl, J_X10_untangle_111, u_dc, nI_0]
      split <;> rfl
    · intro f3 h3
      obtain ⟨f4, e1, e2, e3, e4, e5⟩ := X2 f3 h3
      refine ⟨f4, ?_, e2⟩
      rw [e5, if_pos nI_0]
      by_cases z : a2 = 0
      · rw [if_pos z, if_pos z]
      · rw [if_neg z, if_neg z, mw_cross e3, Option.bind_some]
  · have m1 : 1 ≤ m := by omega
    obtain ⟨n1, c1, u1, u2, u3⟩ := u_fact m1 m6
    obtain ⟨num, k, v1, v2, v3⟩ := u_fold (s := s) (M := M) (n := n) u3 0 _ _ _ u1
    have vi : ∀ k, k < m → u_q m num k = k := u_all_eq v2
    have vs : itF (w_unr s M m n) (m ^ m) 0 (0, -1) = itF (w_unt s M m n) k (num + 1) (w_C s M (u_q m num) m n, nI (u_dc (u_q m num) m)) := v3.trans (u_sameF m1 m6 k _ _ _ v1 _ (u_dc_ne m1 m6 num))
    have e0 : w_C s M (u_q m num) m n = s_cross (s 1) (s 2) n := by
      have us : US s M (u_q m num) m s := ⟨⟨fun _ _ => rfl, fun _ _ => rfl⟩, fun i hi => by rw [vi i hi]⟩
      exact (us.cross hM).symm
    have eD : u_dc (u_q m num) m = u_dc (fun k => k) m := u_dc_c vi m (Nat.le_refl m)
    obtain ⟨f5, w1, w2⟩ := x10_unt h.1 m1 m6 hM a2 u2 k (num + 1) num 719 v1 (Nat.le_refl _) f2 s 50000 (w_C s M (u_q m num) m n, nI (u_dc (u_q m num) m)) kt2 d3 ⟨fun _ _ => rfl, fun _ _ => rfl⟩ hD2 (hO2.eq fun k hk => (vi k hk).symm) (by omega)
    rw [← vs] at w1
    have h5 := h.kt6 w2
    obtain ⟨f6, e1, e2, e3, e4, e5⟩ := X2 f5 h5
    have mm : m ^ m < 49999 := by
      rcases (by omega : m = 1 ∨ m = 2 ∨ m = 3 ∨ m = 4 ∨ m = 5 ∨ m = 6) with rfl | rfl | rfl | rfl | rfl | rfl <;> decide +kernel
    obtain ⟨f7, t1, t2⟩ := mw_unt m1 m6 hM hOp e3 e4 a2 mm
    refine ⟨if a2 = 0 then (itF (w_unr s M m n) (m ^ m) 0 (0, -1)).2 else (itF (w_unr s M m n) (m ^ m) 0 (0, -1)).1, (f5, r), (f7, r), X1.trans ?_, ?_, n, tc, tz, tk, s, h5.km (e2.trans t2)⟩
    · rw [← e0, ← eD, show (1 : Int32) = nI (720 - 719) by decide +kernel]
      exact w1
    · rw [e5, if_neg (nI_ne0 (by omega) (by omega))]
      have := x11_unt51 (r := r) m6 e4.1 a2 m 0 50000 (by omega) (by omega)
      rw [Nat.pow_zero, nI_0, show nI 1 = (1 : Int32) by decide +kernel] at this
      exact this.trans t1
