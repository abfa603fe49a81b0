/-! person, peopleBy, feed -/
def w_cv (n : Nat) (s : Nat → Nat → Int32) (a b : Int32) : Int32 × Nat × (Nat → Nat → Int32) := if s_in a 0 59 = 0 ∨ s_in b 0 1999 = 0 ∨ s_opp (b / 100) (i_rem b 100) = 0 ∨ ¬ s_who (s 1) n (b / 100) = -1 then (-2, n, s) else if n = 6 then (-4, n, s) else (nI n, n + 1, w_new1 n s a b)
def w_ext (n : Nat) (s : Nat → Nat → Int32) (n' : Nat) (s' : Nat → Nat → Int32) : Prop := n ≤ n' ∧ s' 0 7 = s 0 7 ∧ s' 0 8 = s 0 8 ∧ ∀ p, p < n → s' 4 p = s 4 p ∧ s' 5 p = s 5 p
theorem w_ext.refl (n : Nat) (s : Nat → Nat → Int32) : w_ext n s n s := ⟨Nat.le_refl n, rfl, rfl, fun _ _ => ⟨rfl, rfl⟩⟩
theorem w_ext.trans {n n' n'' : Nat} {s s' s'' : Nat → Nat → Int32} (a : w_ext n s n' s') (b : w_ext n' s' n'' s'') : w_ext n s n'' s'' := by
  have a1 := a.1
  exact ⟨Nat.le_trans a.1 b.1, b.2.1.trans a.2.1, b.2.2.1.trans a.2.2.1, fun p hp => ⟨(b.2.2.2 p (by omega)).1.trans (a.2.2.2 p hp).1, (b.2.2.2 p (by omega)).2.trans (a.2.2.2 p hp).2⟩⟩
theorem w_cv_ext (n : Nat) (s : Nat → Nat → Int32) (a b : Int32) : w_ext n s (w_cv n s a b).2.1 (w_cv n s a b).2.2 := by
  unfold w_cv
  split
  · exact w_ext.refl n s
  · split
    · exact w_ext.refl n s
    · exact ⟨by show n ≤ n + 1; omega, rfl, rfl, fun p hp => ⟨if_neg (fun z => by omega), if_neg (fun z => by omega)⟩⟩
theorem w_cv_wf {n : Nat} {s : Nat → Nat → Int32} (hw : w_wf n s) (h6 : n ≤ 6) (a b : Int32) : w_wf (w_cv n s a b).2.1 (w_cv n s a b).2.2 ∧ (w_cv n s a b).2.1 ≤ 6 := by
  unfold w_cv
  by_cases q : s_in a 0 59 = 0 ∨ s_in b 0 1999 = 0 ∨ s_opp (b / 100) (i_rem b 100) = 0 ∨ ¬ s_who (s 1) n (b / 100) = -1
  · rw [if_pos q]
    exact ⟨hw, h6⟩
  · rw [if_neg q]
    by_cases z : n = 6
    · rw [if_pos z]
      exact ⟨hw, h6⟩
    · rw [if_neg z]
      exact ⟨w_new_wf hw h6 q, by show n + 1 ≤ 6; omega⟩
theorem cv_cls {f : Nat → Nat → Int32} {r : Nat → Nat → Option Nat} {n : Nat} {tk : Nat → Nat → List (Nat × Int32)} {s : Nat → Nat → Int32} (h : SQ f r 52 n tk s) (hw : w_wf n s) (a b : Int32) : ∃ f', f_X10_comes SS 0 a b (f, r) = some ((w_cv n s a b).1, (f', r)) ∧ SQ f' r 52 (w_cv n s a b).2.1 tk (w_cv n s a b).2.2 ∧ ∀ q, (q < 52 ∨ 59 ≤ q) → f' q = f q := by
  unfold w_cv
  by_cases q : s_in a 0 59 = 0 ∨ s_in b 0 1999 = 0 ∨ s_opp (b / 100) (i_rem b 100) = 0 ∨ ¬ s_who (s 1) n (b / 100) = -1
  · rw [if_pos q]
    exact ⟨f, come_cls0 h q, h, fun _ _ => rfl⟩
  · rw [if_neg q]
    rcases come_cls h hw q with ⟨z, c⟩ | ⟨z, f', c1, c2, c3⟩
    · rw [if_pos z]
      exact ⟨f, c, h, fun _ _ => rfl⟩
    · rw [if_neg (by omega)]
      exact ⟨f', c1, c2, c3⟩
theorem cv_ref {f : Nat → Nat → Int32} {r : Nat → Nat → Option Nat} {n : Nat} {tk : Nat → Nat → List (Nat × Int32)} {s : Nat → Nat → Int32} (h : MW f r n tk s) (a b : Int32) : ∃ f', f_X11_person SS 76 a b (f, r) = some ((w_cv n s a b).1, (f', r)) ∧ MW f' r (w_cv n s a b).2.1 tk (w_cv n s a b).2.2 ∧ (∀ q, (q < 76 ∨ 80 ≤ q) → f' q = f q) ∧ ∀ k, k ≠ 0 → f' 76 k = f 76 k := by
  unfold w_cv
  by_cases q : s_in a 0 59 = 0 ∨ s_in b 0 1999 = 0 ∨ s_opp (b / 100) (i_rem b 100) = 0 ∨ ¬ s_who (s 1) n (b / 100) = -1
  · rw [if_pos q]
    exact ⟨f, come_ref0 h q, h, fun _ _ => rfl, fun _ _ => rfl⟩
  · rw [if_neg q]
    rcases come_ref h q with ⟨z, c⟩ | ⟨z, f', c1, c2, c3, c4⟩
    · rw [if_pos z]
      exact ⟨f, c, h, fun _ _ => rfl, fun _ _ => rfl⟩
    · rw [if_neg (by omega)]
      exact ⟨f', c1, c2, c3, c4⟩
/-- people came, in both -/
theorem IN.grow {f f1 f2 : Nat → Nat → Int32} {r : Nat → Nat → Option Nat} {n n' tc tz : Nat} {tk : Nat → Nat → List (Nat × Int32)} {s s' : Nat → Nat → Int32} (h : IN f r n tc tz tk s) (e : w_ext n s n' s') (h1 : SQ f1 r 52 n' tk s') (k1 : ∀ q, (q < 52 ∨ 59 ≤ q) → f1 q = f q) (h2 : MW f2 r n' tk s') (k2 : ∀ q, (q < 76 ∨ 80 ≤ q) → f2 q = f1 q) (k3 : ∀ k, k ≠ 0 → f2 76 k = f1 76 k) : IN f2 r n' tc tz tk s' := by
  have fr : FR f f2 := ⟨fun b _ hb => by rw [k2 b (by omega), k1 b (by omega)], fun j hj => by rw [k3 j (by omega), k1 76 (by omega)]⟩
  obtain ⟨e1, e2, e3, e4⟩ := e
  refine ⟨h1.lo (fun b hb => k2 b (by omega)), h2, ?_⟩
  obtain ⟨t, t1, t2⟩ := h.2.2.2.2.2.1
  obtain ⟨d, d1, d2⟩ := h.2.2.2.2.2.2.1
  have c0 : f2 0 = f 0 := by rw [k2 0 (by omega), k1 0 (by omega)]
  refine h.2.2.im (fun b _ _ hb => by rw [k2 b (by omega), k1 b (by omega)]) (fun j _ => by rw [c0]) (fun j hj => by rw [k3 j (by omega), k1 76 (by omega)]) ⟨t, t1, e3.trans t2⟩ ⟨d, d1, e2.trans d2⟩ ?_
  rw [c0, k3 11 (by omega), k1 76 (by omega)]
  rcases h.2.2.2.2.2.2.2.2 with y | ⟨y1, y2, y3⟩
  · exact Or.inl y
  · exact Or.inr ⟨y1, y2, y3.of fr e1 (Nat.le_refl _) e4⟩
theorem ok_person : OK_person SS Inv_ := by
  intro g a1 a2 hI
  obtain ⟨f, r⟩ := g
  obtain ⟨n, tc, tz, tk, s, h⟩ := hI
  have h : IN f r n tc tz tk s := h
  obtain ⟨f1, c1, c2, c3⟩ := cv_cls h.1 h.2.1.2.2.1 a1 a2
  obtain ⟨f2, d1, d2, d3, d4⟩ := cv_ref (h.2.1.hi (fun b hb => c3 b (by omega))) a1 a2
  refine do_ (w_cv n s a1 a2).1 (f1 := f1) (f2 := f2) ?_ d1 (h.grow (w_cv_ext n s a1 a2) c2 c3 d2 d3 d4)
  unfold f_X10_person
  rw [if_pos ob10, c1, Option.bind_some]
def w_pbF (c : Nat → Int32) (z fr : Nat) (k : Nat) (t : Int32 × Nat × (Nat → Nat → Int32)) : Sum (Int32 × Nat × (Nat → Nat → Int32)) (Int32 × Nat × (Nat → Nat → Int32)) := if fr + 2 * k + 2 ≤ z then .inr (if (w_cv t.2.1 t.2.2 (c (fr + 2 * k)) (c (fr + 2 * k + 1))).1 < 0 then t.1 else t.1 + 1, (w_cv t.2.1 t.2.2 (c (fr + 2 * k)) (c (fr + 2 * k + 1))).2) else .inl (-12, t.2)
theorem ok_peopleBy : OK_peopleBy SS Inv_ := by
  intro g a1 a2 a3 a4 hI
  obtain ⟨f, r⟩ := g
  obtain ⟨n, tc, tz, tk, s, h⟩ := hI
  have h : IN f r n tc tz tk s := h
  have hG : GG (f, r) := h.1.cs.1
  have h10 := rf10 hG
  have no : ¬ (1 : Int32) = 0 := by decide
  have A85 : ArA 0 85 4 := by unfold ArA; decide +kernel
  have A86 : ArA 0 86 4 := by unfold ArA; decide +kernel
  have A87 : ArA 0 87 160 := by unfold ArA; decide +kernel
  rcases arg3 a1 3 4 3 (by decide +kernel) (by decide +kernel) (by omega) with ⟨q1, q2⟩ | ⟨q1, q2, q3, q4, q5, q6⟩ | ⟨i, hi, rfl, q1, q2, q3, q4, q5, q6⟩
  · exact ask0 h (-2) (by unfold f_X10_peopleBy; rw [if_pos ob10, x10_sh, if_pos q1, Option.bind_some, if_pos rfl]) (by unfold f_X11_peopleBy; rw [if_pos ob11, m_in, Option.bind_some, q2, if_pos rfl])
  · exact ask0 h (-2) (by unfold f_X10_peopleBy; rw [if_pos ob10, x10_sh, if_neg q1, if_pos q3, Option.bind_some, if_pos rfl]) (by unfold f_X11_peopleBy; rw [if_pos ob11, m_in, Option.bind_some, q6, if_pos rfl])
  have hi4 : i < 4 := by omega
  obtain ⟨so, z, hs⟩ := h.2.2.2.2.2.2.2.1 i hi4
  obtain ⟨c1, c2, c3, c4, c5, c6⟩ := id hs
  have x1 : f_X10_peopleBy SS 0 (nI i) a2 a3 a4 (f, r) = if a2 < 0 then some (-2, (f, r)) else if 2 < a2 then some (-2, (f, r)) else if a4 < 0 then some (-2, (f, r)) else if a4 ≤ 6 then (if so = -1 then some (-11, (f, r)) else if so = a2 then L_X10_peopleBy_71 50000 SS 0 a4 (37 + 2 * i) 0 a3 0 (f, r) else some (-13, (f, r))) else some (-2, (f, r)) := by
    unfold f_X10_peopleBy f_X6_isMissing
    rw [if_pos ob10, x10_sh, if_neg q1, if_neg q3, Option.bind_some, if_neg no]
    simp only [h10, Option.bind_some, rfShs hG hi4, if_pos (obSh i hi4), gI_ok (obSh i hi4), c1]
    by_cases y : so = -1
    · simp only [y, if_true, Option.bind_some, z10, if_false]
    · simp only [y, if_false, Option.bind_some, if_true, c1]
  have x2 : ∀ f1 : Nat → Nat → Int32, f1 85 = f 85 → f_X11_peopleBy SS 76 (nI i) a2 a3 a4 (f1, r) = if s_in a2 0 2 = 0 then some (-2, (f1, r)) else if s_in a4 0 6 = 0 then some (-2, (f1, r)) else if so = -1 then some (-11, (f1, r)) else if so = a2 then L_X11_peopleBy_64 50000 SS 76 (nI i) a3 a4 0 0 (f1, r) else some (-13, (f1, r)) := by
    intro f1 e85
    have h11 := rf11 (show GG (f1, r) from hG)
    unfold f_X11_peopleBy
    rw [if_pos ob11, m_in, Option.bind_some, q6, if_neg no]
    simp only [m_in, h11, Option.bind_some, aI_ok A85 hi4 (by omega : 4 < 2 ^ 31), e85, c2]
  rcases arg3 a2 2 3 2 (by decide +kernel) (by decide +kernel) (by omega) with ⟨p1, p2⟩ | ⟨p1, p2, p3, p4, p5, p6⟩ | ⟨o, ho, eo, p1, p2, p3, p4, p5, p6⟩
  · exact ask0 h (-2) (by rw [x1, if_pos p1]) (by rw [x2 f rfl, p2, if_pos rfl])
  · exact ask0 h (-2) (by rw [x1, if_neg p1, if_pos p2]) (by rw [x2 f rfl, p6, if_pos rfl])
  rcases arg3 a4 6 7 6 (by decide +kernel) (by decide +kernel) (by omega) with ⟨v1, v2⟩ | ⟨v1, v2, v3, v4, v5, v6⟩ | ⟨d, hd, rfl, v1, v2, v3, v4, v5, v6⟩
  · exact ask0 h (-2) (by rw [x1, if_neg p1, if_neg p2, if_pos v1]) (by rw [x2 f rfl, p6, if_neg no, v2, if_pos rfl])
  · exact ask0 h (-2) (by rw [x1, if_neg p1, if_neg p2, if_neg v1, if_neg v4]) (by rw [x2 f rfl, p6, if_neg no, v6, if_pos rfl])
  by_cases y : so = -1
  · exact ask0 h (-11) (by rw [x1, if_neg p1, if_neg p2, if_neg v1, if_pos v4, if_pos y]) (by rw [x2 f rfl, p6, if_neg no, v6, if_neg no, if_pos y])
  by_cases ye : so = a2
  rotate_left
  · exact ask0 h (-13) (by rw [x1, if_neg p1, if_neg p2, if_neg v1, if_pos v4, if_neg y, if_neg ye]) (by rw [x2 f rfl, p6, if_neg no, v6, if_neg no, if_neg y, if_neg ye])
  have X1 : f_X10_peopleBy SS 0 (nI i) a2 a3 (nI d) (f, r) = L_X10_peopleBy_71 50000 SS 0 (nI d) (37 + 2 * i) 0 a3 0 (f, r) := by
    rw [x1, if_neg p1, if_neg p2, if_neg v1, if_pos v4, if_neg y, if_pos ye]
  have X2 : ∀ f1 : Nat → Nat → Int32, f1 85 = f 85 → f_X11_peopleBy SS 76 (nI i) a2 a3 (nI d) (f1, r) = L_X11_peopleBy_64 50000 SS 76 (nI i) a3 (nI d) 0 0 (f1, r) := by
    intro f1 e85
    rw [x2 f1 e85, p6, if_neg no, v6, if_neg no, if_neg y, if_pos ye]
  have k50 : ∀ m : Nat, 0 < m → ∃ q, m = q + 1 := fun m hm => ⟨m - 1, by omega⟩
  obtain ⟨M, hM⟩ := k50 50000 (by omega)
  by_cases d0 : d = 0
  · subst d0
    refine ask0 h 0 ?_ ?_
    · rw [X1, hM, L_X10_peopleBy_71, nI_0, if_pos (by decide)]
    · rw [X2 f rfl, hM, L_X11_peopleBy_64, nI_0, if_pos (by decide)]
  have zt : (nI z - 2).toInt = (z : Int) - 2 := by
    have key : ∀ z, z ≤ 40 → (nI z - 2).toInt = (z : Int) - 2 := by decide +kernel
    exact key z c5
  have rowA := x6_row (f := f) (r := r) hi4 c3 c5 a3 2
  have k2 : (2 : Int32) = nI 2 := by decide +kernel
  have k0 : (0 : Int32) = nI 0 := nI_0.symm
  by_cases good : ∃ fr, a3 = nI fr ∧ fr + 2 ≤ z
  rotate_left
  · refine ask0 h (-12) ?_ ?_
    · rw [X1, hM, L_X10_peopleBy_71, if_neg (by rw [k0]; exact nI_ge (by omega) (by omega))]
      rcases rowA with ⟨w, -⟩ | ⟨w, a, b, e1, e2, e3⟩
      · rw [w, Option.bind_some, if_pos rfl]
      · have := nI_inj (by omega) (by omega) (k2.symm.trans e2)
        exact absurd ⟨a, e1, by omega⟩ good
    · rw [X2 f rfl, hM, L_X11_peopleBy_64, if_neg (by rw [k0]; exact nI_ge (by omega) (by omega))]
      by_cases g1 : a3 < 0
      · rw [if_pos g1]
      · have e0 : a3 + (2 : Int32) * 0 = a3 := by rw [Int32.mul_zero, Int32.add_zero]
        rw [if_neg g1, e0, if_neg (Int32.lt_irrefl), (rf11 hG).2.2.2.2.2.2.2.2.2.1, Option.bind_some, aI_ok A86 hi4 (by omega), Option.bind_some, show (f, r).1 86 i = nI z from c4]
        rw [if_neg]
        intro w
        have w1 := Int32.le_iff_toInt_le.mp w
        rw [zt] at w1
        have g2 : ¬ a3.toInt < (0 : Int32).toInt := fun z => g1 (Int32.lt_iff_toInt_lt.mpr z)
        have kk0 : (0 : Int32).toInt = 0 := by decide +kernel
        obtain ⟨t, t1, t2⟩ := nI_ex (x := a3) (n := z) (by omega) g1 (Int32.lt_iff_toInt_lt.mpr (by rw [nI_toInt (by omega)]; omega))
        rw [t2, nI_toInt (by omega)] at w1
        exact good ⟨t, t2, by omega⟩
  obtain ⟨fr, rfl, hfr⟩ := good
  -- the class
  have keyA := loopX (L := fun m k (a : (Int32 × Int32) × (Nat → Nat → Int32)) => L_X10_peopleBy_71 m SS 0 (nI d) (37 + 2 * i) a.1.1 a.1.2 k (a.2, r)) (n := d) (F := w_pbF (c_tell f i) z fr) (fin := fun t => t)
    (I := fun k t a => a.1.1 = t.1 ∧ a.1.2 = nI (fr + 2 * k) ∧ SQ a.2 r 52 t.2.1 tk t.2.2 ∧ w_wf t.2.1 t.2.2 ∧ (∀ q, (q < 52 ∨ 59 ≤ q) → a.2 q = f q) ∧ w_ext n s t.2.1 t.2.2)
    (P := fun v q => ∃ f', q = (v.1, (f', r)) ∧ SQ f' r 52 v.2.1 tk v.2.2 ∧ w_wf v.2.1 v.2.2 ∧ (∀ q, (q < 52 ∨ 59 ≤ q) → f' q = f q) ∧ w_ext n s v.2.1 v.2.2)
    (fun m t a hI => by
      obtain ⟨i1, i2, i3, i4, i5, i6⟩ := hI
      refine ⟨(t.1, (a.2, r)), ?_, a.2, rfl, i3, i4, i5, i6⟩
      show L_X10_peopleBy_71 (m + 1) SS 0 (nI d) (37 + 2 * i) a.1.1 a.1.2 (nI d) (a.2, r) = _
      rw [L_X10_peopleBy_71, if_pos (nI_le (Nat.le_refl d) (by omega)), i1])
    (fun m k t a _ hk hI => by
      obtain ⟨i1, i2, i3, i4, i5, i6⟩ := hI
      have hGa : GG (a.2, r) := hG
      have y3 : a.2 (37 + 2 * i) 2 = nI z := by rw [i5 _ (by omega)]; exact c3
      have st : L_X10_peopleBy_71 (m + 1) SS 0 (nI d) (37 + 2 * i) a.1.1 a.1.2 (nI k) (a.2, r) = (f_X6_hasRow SS (37 + 2 * i) (nI (fr + 2 * k)) 2 (a.2, r)).bind fun q2 => if q2.1 = 0 then some (-12, q2.2) else (f_X6_get SS (37 + 2 * i) (nI (fr + 2 * k)) q2.2).bind fun q4 => (f_X6_get SS (37 + 2 * i) (nI (fr + 2 * k) + 1) q4.2).bind fun q6 => (f_X10_comes SS 0 q4.1 q6.1 q6.2).bind fun q8 => if q8.1 < 0 then L_X10_peopleBy_71 m SS 0 (nI d) (37 + 2 * i) t.1 (nI (fr + 2 * k) + 2) (nI (k + 1)) q8.2 else L_X10_peopleBy_71 m SS 0 (nI d) (37 + 2 * i) (t.1 + 1) (nI (fr + 2 * k) + 2) (nI (k + 1)) q8.2 := by
        rw [L_X10_peopleBy_71, if_neg (nI_ge hk (by omega)), i1, i2]
        simp only [J_X10_peopleBy_118, nI_1]
      have en : nI (fr + 2 * k) + 2 = nI (fr + 2 * (k + 1)) := by rw [k2, nI_add]; congr 1
      rcases x6_row (r := r) hi4 y3 c5 (nI (fr + 2 * k)) 2 with ⟨w, wn⟩ | ⟨w, a', b', e1, e2, e3⟩
      · have bad : ¬ fr + 2 * k + 2 ≤ z := fun v => wn ⟨fr + 2 * k, 2, rfl, k2, v⟩
        refine Or.inl ⟨(-12, t.2), (-12, (a.2, r)), by unfold w_pbF; rw [if_neg bad], ?_, a.2, rfl, i3, i4, i5, i6⟩
        show L_X10_peopleBy_71 (m + 1) SS 0 (nI d) (37 + 2 * i) a.1.1 a.1.2 (nI k) (a.2, r) = _
        rw [st, w, Option.bind_some, if_pos rfl]
      · have := nI_inj (by omega) (by omega) (k2.symm.trans e2)
        by_cases big : fr + 2 * k < 2 ^ 31
        · have := nI_inj big (by omega) e1
          have ok : fr + 2 * k + 2 ≤ z := by omega
          have y4 : a.2 (38 + 2 * i) = f (38 + 2 * i) := i5 _ (by omega)
          have gA := sh_get hGa hi4 y3 c5 (k := fr + 2 * k) (by omega)
          have gB := sh_get hGa hi4 y3 c5 (k := fr + 2 * k + 1) (by omega)
          rw [y4, c6 _ (by omega)] at gA
          rw [y4, c6 _ (by omega)] at gB
          obtain ⟨f1, b1, b2, b3⟩ := cv_cls i3 i4 (c_tell f i (fr + 2 * k)) (c_tell f i (fr + 2 * k + 1))
          have wf1 := (w_cv_wf i4 i3.le (c_tell f i (fr + 2 * k)) (c_tell f i (fr + 2 * k + 1))).1
          have ex1 := i6.trans (w_cv_ext t.2.1 t.2.2 (c_tell f i (fr + 2 * k)) (c_tell f i (fr + 2 * k + 1)))
          refine Or.inr ⟨(if (w_cv t.2.1 t.2.2 (c_tell f i (fr + 2 * k)) (c_tell f i (fr + 2 * k + 1))).1 < 0 then t.1 else t.1 + 1, (w_cv t.2.1 t.2.2 (c_tell f i (fr + 2 * k)) (c_tell f i (fr + 2 * k + 1))).2), ((if (w_cv t.2.1 t.2.2 (c_tell f i (fr + 2 * k)) (c_tell f i (fr + 2 * k + 1))).1 < 0 then t.1 else t.1 + 1, nI (fr + 2 * (k + 1))), f1), by unfold w_pbF; rw [if_pos ok], ?_, rfl, rfl, b2, wf1, fun q hq => (b3 q hq).trans (i5 q hq), ex1⟩
          show L_X10_peopleBy_71 (m + 1) SS 0 (nI d) (37 + 2 * i) a.1.1 a.1.2 (nI k) (a.2, r) = _
          rw [st, w, Option.bind_some, if_neg no, gA, Option.bind_some, nI_1, gB, Option.bind_some, en]
          show (f_X10_comes SS 0 (c_tell f i (fr + 2 * k)) (c_tell f i (fr + 2 * k + 1)) (a.2, r)).bind _ = _
          rw [b1, Option.bind_some]
          split <;> rfl
        · omega)
    d 0 50000 (0, n, s) ((0, nI fr), f) (by omega) (by omega) ⟨rfl, rfl, h.1, h.2.1.2.2.1, fun _ _ => rfl, w_ext.refl n s⟩
  rw [nI_0] at keyA
  obtain ⟨qa, ka1, f1, ka2, ka3, ka4, ka5, ka6⟩ := keyA
  have hi' : ∀ b, 76 ≤ b → f1 b = f b := fun b hb => ka5 b (by omega)
  have m1 := h.2.1.hi hi'
  -- the reference
  have keyB := loopX (L := fun m k (a : Int32 × (Nat → Nat → Int32)) => L_X11_peopleBy_64 m SS 76 (nI i) (nI fr) (nI d) a.1 k (a.2, r)) (n := d) (F := w_pbF (c_tell f i) z fr) (fin := fun t => t)
    (I := fun k t a => a.1 = t.1 ∧ MW a.2 r t.2.1 tk t.2.2 ∧ (∀ q, (q < 76 ∨ 80 ≤ q) → a.2 q = f1 q) ∧ ∀ k, k ≠ 0 → a.2 76 k = f1 76 k)
    (P := fun v q => ∃ f', q = (v.1, (f', r)) ∧ MW f' r v.2.1 tk v.2.2 ∧ (∀ q, (q < 76 ∨ 80 ≤ q) → f' q = f1 q) ∧ ∀ k, k ≠ 0 → f' 76 k = f1 76 k)
    (fun m t a hI => by
      obtain ⟨i1, i2, i3, i4⟩ := hI
      refine ⟨(t.1, (a.2, r)), ?_, a.2, rfl, i2, i3, i4⟩
      show L_X11_peopleBy_64 (m + 1) SS 76 (nI i) (nI fr) (nI d) a.1 (nI d) (a.2, r) = _
      rw [L_X11_peopleBy_64, if_pos (nI_le (Nat.le_refl d) (by omega)), i1])
    (fun m k t a _ hk hI => by
      obtain ⟨i1, i2, i3, i4⟩ := hI
      have h11 := rf11 (show GG (a.2, r) from hG)
      have e86 : a.2 86 i = nI z := by rw [i3 86 (by omega), hi' 86 (by omega)]; exact c4
      have e87 : a.2 87 = f 87 := by rw [i3 87 (by omega), hi' 87 (by omega)]
      have ek : nI fr + (2 : Int32) * nI k = nI (fr + 2 * k) := by
        rw [k2, show nI 2 * nI k = nI (2 * k) from (Int32.ofNat_mul 2 k).symm, nI_add]
      by_cases ok : fr + 2 * k + 2 ≤ z
      · obtain ⟨f2, b1, b2, b3, b4⟩ := cv_ref i2 (c_tell f i (fr + 2 * k)) (c_tell f i (fr + 2 * k + 1))
        refine Or.inr ⟨(if (w_cv t.2.1 t.2.2 (c_tell f i (fr + 2 * k)) (c_tell f i (fr + 2 * k + 1))).1 < 0 then t.1 else t.1 + 1, (w_cv t.2.1 t.2.2 (c_tell f i (fr + 2 * k)) (c_tell f i (fr + 2 * k + 1))).2), (if (w_cv t.2.1 t.2.2 (c_tell f i (fr + 2 * k)) (c_tell f i (fr + 2 * k + 1))).1 < 0 then t.1 else t.1 + 1, f2), by unfold w_pbF; rw [if_pos ok], ?_, rfl, b2, fun q hq => (b3 q hq).trans (i3 q hq), fun k hk => (b4 k hk).trans (i4 k hk)⟩
        show L_X11_peopleBy_64 (m + 1) SS 76 (nI i) (nI fr) (nI d) a.1 (nI k) (a.2, r) = _
        rw [L_X11_peopleBy_64, if_neg (nI_ge hk (by omega)), if_neg (nI_pos (by omega)), ek, if_neg (nI_nlt (by omega) (by omega)), h11.2.2.2.2.2.2.2.2.2.1, Option.bind_some, aI_ok A86 hi4 (by omega), Option.bind_some, show (a.2, r).1 86 i = nI z from e86]
        rw [if_pos (Int32.le_iff_toInt_le.mpr (by rw [zt, nI_toInt (by omega)]; omega)), h11.2.2.2.2.2.2.2.2.2.2.1, Option.bind_some, nI_40j, aI_ok A87 (by omega) (by omega), Option.bind_some, Option.bind_some, nI_1, aI_ok A87 (by omega) (by omega), Option.bind_some, show (a.2, r).1 87 = f 87 from e87]
        show (f_X11_person SS 76 (c_tell f i (fr + 2 * k)) (c_tell f i (fr + 2 * k + 1)) (a.2, r)).bind _ = _
        rw [b1, Option.bind_some, i1]
        simp only [J_X11_peopleBy_144, nI_1, add_0]
        split <;> rfl
      · refine Or.inl ⟨(-12, t.2), (-12, (a.2, r)), by unfold w_pbF; rw [if_neg ok], ?_, a.2, rfl, i2, i3, i4⟩
        show L_X11_peopleBy_64 (m + 1) SS 76 (nI i) (nI fr) (nI d) a.1 (nI k) (a.2, r) = _
        rw [L_X11_peopleBy_64, if_neg (nI_ge hk (by omega)), if_neg (nI_pos (by omega)), ek, if_neg (nI_nlt (by omega) (by omega)), h11.2.2.2.2.2.2.2.2.2.1, Option.bind_some, aI_ok A86 hi4 (by omega), Option.bind_some, show (a.2, r).1 86 i = nI z from e86]
        rw [if_neg (fun w => by have := Int32.le_iff_toInt_le.mp w; rw [zt, nI_toInt (by omega)] at this; omega)])
    d 0 50000 (0, n, s) (0, f1) (by omega) (by omega) ⟨rfl, m1, fun _ _ => rfl, fun _ _ => rfl⟩
  rw [nI_0] at keyB
  obtain ⟨qb, kb1, f2, kb2, kb3, kb4, kb5⟩ := keyB
  exact do_ _ (f1 := f1) (f2 := f2) (X1.trans (ka1.trans (by rw [ka2]))) ((X2 f1 (hi' 85 (by omega))).trans (kb1.trans (by rw [kb2]))) (h.grow ka6 ka3 ka5 kb3 kb4 kb5)
