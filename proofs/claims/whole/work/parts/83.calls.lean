/-! the calls over sheets: judge, whose, kinds, windows, leans, laws -/
def w_rs (so : Int32) (z : Nat) : Int32 := if so = -1 then -11 else if z ≤ 20 then 0 else -2
theorem x10_sh {x : Int32} (g : e_G) : f_X10_isSheet SS x g = some (if x < 0 then 0 else if 4 ≤ x then 0 else 1, g) := by
  unfold f_X10_isSheet
  split
  · rfl
  · split <;> rfl
theorem sq_rs {f : Nat → Nat → Int32} {r : Nat → Nat → Option Nat} (hG : GG (f, r)) {i : Nat} (hi : i < 4) {so : Int32} {z : Nat} (h : SH f i so z) : f_X10_refusalOfSheet SS 0 (nI i) (f, r) = some (w_rs so z, (f, r)) := by
  have h10 := rf10 hG
  have k4 : (4 : Int32) = nI 4 := by decide +kernel
  have k20 : (20 : Int32) = nI 20 := by decide +kernel
  obtain ⟨h1, h2, h3, h4, h5, h6⟩ := h
  unfold f_X10_refusalOfSheet f_X6_isMissing w_rs
  rw [if_pos ob10, x10_sh, if_neg (nI_pos (by omega)), if_neg (by rw [k4]; exact nI_ge hi (by omega)), Option.bind_some, if_neg (show ¬ (1 : Int32) = 0 by decide)]
  simp only [h10, Option.bind_some, rfShs hG hi, if_pos (obSh i hi), gI_ok (obSh i hi), h1, h3]
  by_cases q : so = -1
  · rw [if_pos q, if_pos q]
    rfl
  · rw [if_neg q, if_neg q, Option.bind_some, if_pos rfl]
    simp only [h10, Option.bind_some, rfShs hG hi, gI_ok (obSh i hi), h3]
    by_cases y : z ≤ 20
    · rw [if_pos (by rw [k20]; exact nI_le y (by omega)), if_pos y]
    · rw [if_neg (by rw [k20]; exact nI_ge (by omega) (by omega)), if_neg y]
theorem mw_rs {f : Nat → Nat → Int32} {r : Nat → Nat → Option Nat} (hG : GG (f, r)) {i : Nat} (hi : i < 4) {so : Int32} {z : Nat} (h : SH f i so z) : f_X11_sheetWrong SS 76 (nI i) (f, r) = some (w_rs so z, (f, r)) := by
  have h11 := rf11 hG
  have k3 : (3 : Int32) = nI 3 := by decide +kernel
  have k20 : (20 : Int32) = nI 20 := by decide +kernel
  have A85 : ArA 0 85 4 := by unfold ArA; decide +kernel
  have A86 : ArA 0 86 4 := by unfold ArA; decide +kernel
  obtain ⟨h1, h2, h3, h4, h5, h6⟩ := h
  have e1 : s_in (nI i) 0 3 = 1 := by
    unfold s_in
    rw [if_neg (nI_pos (by omega)), if_neg (by rw [k3]; exact nI_nlt (by omega) (by omega))]
  unfold f_X11_sheetWrong w_rs
  rw [if_pos ob11, m_in, Option.bind_some, e1, if_neg (show ¬ (1 : Int32) = 0 by decide)]
  simp only [h11, Option.bind_some, aI_ok A85 hi (by omega : 4 < 2 ^ 31), aI_ok A86 hi (by omega : 4 < 2 ^ 31), h2, h4]
  by_cases q : so = -1
  · rw [if_pos q, if_pos q]
  · rw [if_neg q, if_neg q]
    by_cases y : z ≤ 20
    · rw [if_pos (by rw [k20]; exact nI_le y (by omega)), if_pos y]
    · rw [if_neg (by rw [k20]; exact nI_ge (by omega) (by omega)), if_neg y]
theorem SH.kt {f f' : Nat → Nat → Int32} {i : Nat} {so : Int32} {z : Nat} (h : SH f i so z) (hi : i < 4) (k : KT f f') : SH f' i so z := h.of hi (FR.kt k)
/-- a call that asks, the reference told what the class left -/
theorem ask2 {α : Type} {A B : e_G → Option (α × e_G)} {f : Nat → Nat → Int32} {r : Nat → Nat → Option Nat} {n tc tz : Nat} {tk : Nat → Nat → List (Nat × Int32)} {s : Nat → Nat → Int32} (h : IN f r n tc tz tk s) (w : α) (hA : ∃ f1, A (f, r) = some (w, (f1, r)) ∧ KT f f1) (hB : ∀ f1, KT f f1 → IN f1 r n tc tz tk s → ∃ f2, B (f1, r) = some (w, (f2, r)) ∧ KM f1 f2) : ∃ (v : α) (g1 g2 : e_G), A (f, r) = some (v, g1) ∧ B g1 = some (v, g2) ∧ Inv_ g2 := by
  obtain ⟨f1, a1, a2⟩ := hA
  have h1 := h.kt a2
  obtain ⟨f2, b1, b2⟩ := hB f1 a2 h1
  exact ⟨w, (f1, r), (f2, r), a1, b1, n, tc, tz, tk, s, h1.km b2⟩
/-- a sheet is refused, or it tells -/
theorem rs_or {f : Nat → Nat → Int32} {r : Nat → Nat → Option Nat} {n tc tz : Nat} {tk : Nat → Nat → List (Nat × Int32)} {s : Nat → Nat → Int32} (h : IN f r n tc tz tk s) (a1 : Int32) : (∃ v, ¬ v = 0 ∧ f_X10_refusalOfSheet SS 0 a1 (f, r) = some (v, (f, r)) ∧ ∀ f1, KT f f1 → f_X11_sheetWrong SS 76 a1 (f1, r) = some (v, (f1, r))) ∨ ∃ i z so, i < 4 ∧ a1 = nI i ∧ z ≤ 20 ∧ SH f i so z ∧ f_X10_refusalOfSheet SS 0 a1 (f, r) = some (0, (f, r)) ∧ ∀ f1, KT f f1 → f_X11_sheetWrong SS 76 a1 (f1, r) = some (0, (f1, r)) := by
  have hG : GG (f, r) := h.1.cs.1
  rcases arg3 a1 3 4 3 (by decide +kernel) (by decide +kernel) (by omega) with ⟨q1, q2⟩ | ⟨q1, q2, q3, q4, q5, q6⟩ | ⟨i, hi, rfl, q1, q2, q3, q4, q5, q6⟩
  · refine Or.inl ⟨-2, by decide, ?_, fun f1 _ => ?_⟩
    · unfold f_X10_refusalOfSheet
      rw [if_pos ob10, x10_sh, if_pos q1, Option.bind_some, if_pos rfl]
    · unfold f_X11_sheetWrong
      rw [if_pos ob11, m_in, Option.bind_some, q2, if_pos rfl]
  · refine Or.inl ⟨-2, by decide, ?_, fun f1 _ => ?_⟩
    · unfold f_X10_refusalOfSheet
      rw [if_pos ob10, x10_sh, if_neg q1, if_pos q3, Option.bind_some, if_pos rfl]
    · unfold f_X11_sheetWrong
      rw [if_pos ob11, m_in, Option.bind_some, q6, if_pos rfl]
  · obtain ⟨so, z, hs⟩ := h.2.2.2.2.2.2.2.1 i (by omega)
    have e1 := sq_rs hG (show i < 4 by omega) hs
    have e2 : ∀ f1, KT f f1 → f_X11_sheetWrong SS 76 (nI i) (f1, r) = some (w_rs so z, (f1, r)) := fun f1 k => mw_rs (show GG (f1, r) from hG) (show i < 4 by omega) (hs.kt (by omega) k)
    by_cases y : w_rs so z = 0
    · rw [y] at e1
      refine Or.inr ⟨i, z, so, by omega, rfl, ?_, hs, e1, fun f1 k => by rw [e2 f1 k, y]⟩
      unfold w_rs at y
      split at y
      · exact absurd y (by decide)
      · split at y
        next q => exact q
        next => exact absurd y (by decide)
    · exact Or.inl ⟨w_rs so z, y, e1, e2⟩
theorem rf_or {f : Nat → Nat → Int32} {r : Nat → Nat → Option Nat} {n tc tz : Nat} {tk : Nat → Nat → List (Nat × Int32)} {s : Nat → Nat → Int32} (h : IN f r n tc tz tk s) (a1 a2 : Int32) : (∃ v, ¬ v = 0 ∧ f_X10_refusalOf SS 0 a1 a2 (f, r) = some (v, (f, r)) ∧ ∀ f1, KT f f1 → f_X11_toldWrong SS 76 a1 a2 (f1, r) = some (v, (f1, r))) ∨ ∃ i z so p, i < 4 ∧ a1 = nI i ∧ z ≤ 20 ∧ SH f i so z ∧ p < n ∧ a2 = nI p ∧ f_X10_refusalOf SS 0 a1 a2 (f, r) = some (0, (f, r)) ∧ ∀ f1, KT f f1 → f_X11_toldWrong SS 76 a1 a2 (f1, r) = some (0, (f1, r)) := by
  have hG : GG (f, r) := h.1.cs.1
  have h10 := rf10 hG
  rcases rs_or h a1 with ⟨v, v0, e1, e2⟩ | ⟨i, z, so, hi, ei, hz, hs, e1, e2⟩
  · refine Or.inl ⟨v, v0, ?_, fun f1 k => ?_⟩
    · unfold f_X10_refusalOf
      rw [if_pos ob10, e1, Option.bind_some, if_neg v0]
    · unfold f_X11_toldWrong
      rw [if_pos ob11, e2 f1 k, Option.bind_some, if_neg v0]
  · rcases s_has_or h.1.le a2 with y | ⟨p, hp, ep, y⟩
    · refine Or.inl ⟨-5, by decide, ?_, fun f1 k => ?_⟩
      · unfold f_X10_refusalOf
        rw [if_pos ob10, e1, Option.bind_some, if_pos rfl, h10.2.2.1, Option.bind_some, sq_has h.1, Option.bind_some, y, if_pos rfl]
      · unfold f_X11_toldWrong
        rw [if_pos ob11, e2 f1 k, Option.bind_some, if_pos rfl, mw_one (h.kt k).2.1, Option.bind_some, y, if_pos rfl]
    · refine Or.inr ⟨i, z, so, p, hi, ei, hz, hs, hp, ep, ?_, fun f1 k => ?_⟩
      · unfold f_X10_refusalOf
        rw [if_pos ob10, e1, Option.bind_some, if_pos rfl, h10.2.2.1, Option.bind_some, sq_has h.1, Option.bind_some, y, if_neg (show ¬ (1 : Int32) = 0 by decide)]
      · unfold f_X11_toldWrong
        rw [if_pos ob11, e2 f1 k, Option.bind_some, if_pos rfl, mw_one (h.kt k).2.1, Option.bind_some, y, if_neg (show ¬ (1 : Int32) = 0 by decide)]
/-- what a sheet tells -/
def c_tell (f : Nat → Nat → Int32) (i : Nat) : Nat → Int32 := fun k => f 87 (40 * i + k)
theorem ok_judge : OK_judge SS Inv_ := by
  intro g a1 a2 hI
  obtain ⟨f, r⟩ := g
  obtain ⟨n, tc, tz, tk, s, h⟩ := hI
  have h : IN f r n tc tz tk s := h
  have hG : GG (f, r) := h.1.cs.1
  have hw := h.2.1.2.2.1
  rcases rf_or h a1 a2 with ⟨v, v0, e1, e2⟩ | ⟨i, z, so, p, hi, rfl, hz, hs, hp, rfl, e1, e2⟩
  · exact ask0 h v (by unfold f_X10_judge; rw [if_pos ob10, e1, Option.bind_some, if_neg v0]) (by unfold f_X11_judge; rw [if_pos ob11, e2 f KT.rfl', Option.bind_some, if_neg v0])
  · refine ask2 h (w_first tk n s p (c_tell f i) z) ?_ (fun f1 k h1 => ?_)
    · obtain ⟨f1, b1, b2, b3⟩ := sq_think h.1 hw
      have hs1 := hs.kt hi b2
      have h10 := rf10 hG
      have h10' := rf10 (show GG (f1, r) from hG)
      obtain ⟨f2, c1, c2⟩ := sq_first b3 hp hi hs1.2.2.1 (by omega) (c := c_tell f i) (fun k hk => by rw [hs1.2.2.2.2.2 k hk, b2 87 (by unfold NS; omega) (by omega)]; rfl)
      refine ⟨f2, ?_, b2.trans c2⟩
      unfold f_X10_judge
      rw [if_pos ob10, e1, Option.bind_some, if_pos rfl]
      simp only [h10, h10', Option.bind_some, b1, rfShs (show GG (f1, r) from hG) hi, c1]
    · have hs1 := hs.kt hi k
      obtain ⟨f2, c1, c2⟩ := mw_first h1.2.1 hp hi hs1.2.2.2.1 (by omega) (c := c_tell f i) (fun k' hk => by rw [k 87 (by unfold NS; omega) (by omega)]; rfl)
      refine ⟨f2, ?_, c2⟩
      unfold f_X11_judge
      rw [if_pos ob11, e2 f1 k, Option.bind_some, if_pos rfl, c1, Option.bind_some]
/-- numbers by which that would be -1, as bits -/
def w_setF (G : Nat → Int32) (i : Nat) (b : Int32) : Int32 := if G i = -1 then b ||| ((1 : Int32) <<< (nI i &&& 31)) else b
def w_set (G : Nat → Int32) (n : Nat) : Int32 := itF (w_setF G) n 0 0
theorem ok_whose : OK_whose SS Inv_ := by
  intro g a1 hI
  obtain ⟨f, r⟩ := g
  obtain ⟨n, tc, tz, tk, s, h⟩ := hI
  have h : IN f r n tc tz tk s := h
  have hG : GG (f, r) := h.1.cs.1
  have h6 := h.1.le
  have hw := h.2.1.2.2.1
  have h0 : nI 0 = (0 : Int32) := nI_0
  rcases rs_or h a1 with ⟨v, v0, e1, e2⟩ | ⟨i, z, so, hi, rfl, hz, hs, e1, e2⟩
  · exact ask0 h v (by unfold f_X10_whose; rw [if_pos ob10, e1, Option.bind_some, if_neg v0]) (by unfold f_X11_whose; rw [if_pos ob11, e2 f KT.rfl', Option.bind_some, if_neg v0])
  · refine ask2 h (w_set (fun p => w_first tk n s p (c_tell f i) z) n) ?_ (fun f1 k h1 => ?_)
    · have b52 : e_ob SS 7 52 = true := obS (Or.inl rfl)
      have r52 : ∀ f, e_gR SS (f, r) 10 0 2 = some 52 := fun f => (rf10 (g := (f, r)) hG).2.2.1
      have r60 : ∀ f, e_gR SS (f, r) 10 0 3 = some 60 := fun f => (rf10 (g := (f, r)) hG).2.2.2.1
      have r2 : ∀ f, e_gR SS (f, r) 10 0 1 = some 2 := fun f => (rf10 (g := (f, r)) hG).2.1
      have rs : ∀ f : Nat → Nat → Int32, e_aR SS (f, r) 4 2 (nI i) = some (37 + 2 * i) := fun f => rfShs (show GG (f, r) from hG) hi
      have key := loopY (L := fun m k (a : Int32 × (Nat → Nat → Int32)) => L_X10_whose_17 m SS 0 (nI i) a.1 k (a.2, r)) (n := n) (F := w_setF (fun p => w_first tk n s p (c_tell f i) z))
        (I := fun _ t a => a.1 = t ∧ KT f a.2) (P := fun t q => ∃ f', q = (t, (f', r)) ∧ KT f f')
        (fun m t a hI => by
          have h52 := h.1.kt (Or.inl rfl) hI.2
          refine ⟨(t, (a.2, r)), ?_, a.2, rfl, hI.2⟩
          show L_X10_whose_17 (m + 1) SS 0 (nI i) a.1 (nI n) (a.2, r) = _
          rw [L_X10_whose_17, r52, Option.bind_some, gI_ok b52, Option.bind_some, show (a.2, r).1 52 6 = nI n from h52.n, if_pos (nI_le (Nat.le_refl n) (by omega)), hI.1])
        (fun m j t a hj hI => by
          obtain ⟨rfl, i2⟩ := hI
          have h52 := h.1.kt (Or.inl rfl) i2
          obtain ⟨f1, b1, b2, b3⟩ := sq_think h52 hw
          have kt := i2.trans b2
          have hs1 := hs.kt hi kt
          obtain ⟨f2, c1, c2⟩ := sq_first b3 hj hi hs1.2.2.1 (by omega) (c := c_tell f i) (fun k hk => by rw [hs1.2.2.2.2.2 k hk, kt 87 (by unfold NS; omega) (by omega)]; rfl)
          show ∃ s' : Int32 × (Nat → Nat → Int32), L_X10_whose_17 (m + 1) SS 0 (nI i) a.1 (nI j) (a.2, r) = L_X10_whose_17 m SS 0 (nI i) s'.1 (nI (j + 1)) (s'.2, r) ∧ _
          rw [L_X10_whose_17, r52, Option.bind_some, gI_ok b52, Option.bind_some, show (a.2, r).1 52 6 = nI n from h52.n, if_neg (nI_ge hj (by omega)), r60, Option.bind_some, Option.bind_some, b1, Option.bind_some, r2, Option.bind_some, rs, Option.bind_some, c1, Option.bind_some]
          unfold w_setF
          by_cases q : w_first tk n s j (c_tell f i) z = -1
          · rw [if_pos q, if_pos q]
            exact ⟨(a.1 ||| ((1 : Int32) <<< (nI j &&& 31)), f2), by rw [J_X10_whose_63, nI_1], rfl, kt.trans c2⟩
          · rw [if_neg q, if_neg q]
            exact ⟨(a.1, f2), by rw [J_X10_whose_63, nI_1], rfl, kt.trans c2⟩)
        n 0 50000 0 (0, f) (by omega) (by omega) ⟨rfl, KT.rfl'⟩
      rw [h0] at key
      obtain ⟨q, k1, f', k2, k3⟩ := key
      refine ⟨f', ?_, k3⟩
      unfold f_X10_whose
      rw [if_pos ob10, e1, Option.bind_some, if_pos rfl]
      exact k1.trans (by rw [k2]; rfl)
    · have key := loopY (L := fun m k (a : Int32 × (Nat → Nat → Int32)) => L_X11_whose_17 m SS 76 (nI i) a.1 k (a.2, r)) (n := n) (F := w_setF (fun p => w_first tk n s p (c_tell f i) z))
        (I := fun _ t a => a.1 = t ∧ KM f1 a.2) (P := fun t q => ∃ f', q = (t, (f', r)) ∧ KM f1 f')
        (fun m t a hI => by
          have h2 := h1.2.1.km hI.2
          refine ⟨(t, (a.2, r)), ?_, a.2, rfl, hI.2⟩
          show L_X11_whose_17 (m + 1) SS 76 (nI i) a.1 (nI n) (a.2, r) = _
          rw [L_X11_whose_17, gI_ok ob11, Option.bind_some, show (a.2, r).1 76 0 = nI n from h2.1.2.1, if_pos (nI_le (Nat.le_refl n) (by omega)), hI.1])
        (fun m j t a hj hI => by
          obtain ⟨rfl, i2⟩ := hI
          have h2 := h1.2.1.km i2
          have hs1 := (hs.kt hi k).of hi (FR.km i2)
          obtain ⟨f2, c1, c2⟩ := mw_first h2 hj hi hs1.2.2.2.1 (by omega) (c := c_tell f i) (fun k' hk => by rw [i2.1 87 (by omega) (by omega) (by omega), k 87 (by unfold NS; omega) (by omega)]; rfl)
          show ∃ s' : Int32 × (Nat → Nat → Int32), L_X11_whose_17 (m + 1) SS 76 (nI i) a.1 (nI j) (a.2, r) = L_X11_whose_17 m SS 76 (nI i) s'.1 (nI (j + 1)) (s'.2, r) ∧ _
          rw [L_X11_whose_17, gI_ok ob11, Option.bind_some, show (a.2, r).1 76 0 = nI n from h2.1.2.1, if_neg (nI_ge hj (by omega)), c1, Option.bind_some]
          unfold w_setF
          by_cases q : w_first tk n s j (c_tell f i) z = -1
          · rw [if_pos q, if_pos q]
            exact ⟨(a.1 ||| ((1 : Int32) <<< (nI j &&& 31)), f2), by rw [J_X11_whose_46, nI_1], rfl, i2.trans c2⟩
          · rw [if_neg q, if_neg q]
            exact ⟨(a.1, f2), by rw [J_X11_whose_46, nI_1, or_0], rfl, i2.trans c2⟩)
        n 0 50000 0 (0, f1) (by omega) (by omega) ⟨rfl, KM.rfl'⟩
      rw [h0] at key
      obtain ⟨q, k1, f', k2, k3⟩ := key
      refine ⟨f', ?_, k3⟩
      unfold f_X11_whose
      rw [if_pos ob11, e2 f1 k, Option.bind_some, if_pos rfl]
      exact k1.trans (by rw [k2]; rfl)
