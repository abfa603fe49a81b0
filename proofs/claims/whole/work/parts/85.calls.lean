/-! windows, leans, laws -/
def c_wj (sort : Int32) : Nat := if sort = 0 then 1 else 2
def c_wc (sort : Int32) : Nat := if sort = 0 then 0 else 1
def c_may (n : Nat) (s : Nat → Nat → Int32) (p : Nat) (sort : Int32) (w : Nat) : Int32 := if sort = 0 then s_mayBe (s 1) n p (nI w) else s_opp (s 1 p) (nI w)
def w_winG (tk : Nat → Nat → List (Nat × Int32)) (n : Nat) (s : Nat → Nat → Int32) (p : Nat) (c : Nat → Int32) (z : Nat) (sort : Int32) (w : Nat) : Int32 := if c_may n s p sort w = 0 then 0 else w_first tk n (e_up s (c_wj sort) p (nI w)) p c z
theorem wf_may {n : Nat} {s : Nat → Nat → Int32} (h : w_wf n s) (h6 : n ≤ 6) {p : Nat} (hp : p < n) {sort : Int32} {w : Nat} (ho : ¬ c_may n s p sort w = 0) : w_wf n (e_up s (c_wj sort) p (nI w)) := by
  unfold c_may at ho
  unfold c_wj
  by_cases q : sort = 0
  · rw [if_pos q] at ho ⊢
    exact wf_mayBe h h6 hp ho
  · rw [if_neg q] at ho ⊢
    rcases s_opp01 (s 1 p) (nI w) with y | y
    · exact absurd y ho
    · exact wf_opp h hp y
theorem sq_windows {f : Nat → Nat → Int32} {r : Nat → Nat → Option Nat} {n : Nat} {tk : Nat → Nat → List (Nat × Int32)} {s : Nat → Nat → Int32} (h : SQ f r 52 n tk s) (hw : w_wf n s) {p : Nat} (hp : p < n) {i z : Nat} (hi : i < 4) (hz : z ≤ 20) {so : Int32} (hs : SH f i so z) (sort : Int32) : ∃ f', L_X10_windows_34 50000 SS 0 (nI i) (nI p) sort 0 0 (f, r) = some (w_set (w_winG tk n s p (c_tell f i) z sort) 20, (f', r)) ∧ KT f f' := by
  have hG : GG (f, r) := h.cs.1
  have h6 := h.le
  have hS : IsS 60 := Or.inr (Or.inl rfl)
  have r52 : ∀ f, e_gR SS (f, r) 10 0 2 = some 52 := fun f => (rf10 (g := (f, r)) hG).2.2.1
  have r60 : ∀ f, e_gR SS (f, r) 10 0 3 = some 60 := fun f => (rf10 (g := (f, r)) hG).2.2.2.1
  have r2 : ∀ f, e_gR SS (f, r) 10 0 1 = some 2 := fun f => (rf10 (g := (f, r)) hG).2.1
  have rs : ∀ f : Nat → Nat → Int32, e_aR SS (f, r) 4 2 (nI i) = some (37 + 2 * i) := fun f => rfShs (show GG (f, r) from hG) hi
  have r61 : ∀ f, e_gR SS (f, r) 7 60 0 = some 61 := fun f => (rfS (g := (f, r)) hG hS).1
  have r62 : ∀ f, e_gR SS (f, r) 7 60 1 = some 62 := fun f => (rfS (g := (f, r)) hG hS).2.1
  have s61 : ∀ (f : Nat → Nat → Int32) (v : Int32), e_aS SS (f, r) 0 61 (nI p) v = some (e_up f 61 p v, r) := fun f v => aS_ok (arS hS).1 (by omega) (by omega)
  have s62 : ∀ (f : Nat → Nat → Int32) (v : Int32), e_aS SS (f, r) 0 62 (nI p) v = some (e_up f 62 p v, r) := fun f v => aS_ok (arS hS).2.1 (by omega) (by omega)
  have k20 : (20 : Int32) = nI 20 := by decide +kernel
  have key := loopY (L := fun m k (a : Int32 × (Nat → Nat → Int32)) => L_X10_windows_34 m SS 0 (nI i) (nI p) sort a.1 k (a.2, r)) (n := 20) (F := w_setF (w_winG tk n s p (c_tell f i) z sort))
    (I := fun _ t a => a.1 = t ∧ KT f a.2) (P := fun t q => ∃ f', q = (t, (f', r)) ∧ KT f f')
    (fun m t a hI => by
      refine ⟨(t, (a.2, r)), ?_, a.2, rfl, hI.2⟩
      show L_X10_windows_34 (m + 1) SS 0 (nI i) (nI p) sort a.1 (nI 20) (a.2, r) = _
      rw [L_X10_windows_34, k20, if_pos (nI_le (Nat.le_refl _) (by omega)), hI.1])
    (fun m j t a hj hI => by
      obtain ⟨rfl, i2⟩ := hI
      have h52 := h.kt (Or.inl rfl) i2
      obtain ⟨f1, b1, b2, b3⟩ := sq_think h52 hw
      -- not allowed
      have no : c_may n s p sort j = 0 → ∃ s' : Int32 × (Nat → Nat → Int32), J_X10_windows_141 (L_X10_windows_34 m SS) SS 0 (nI i) (nI p) sort a.1 (nI j) (a.2, r) = L_X10_windows_34 m SS 0 (nI i) (nI p) sort s'.1 (nI (j + 1)) (s'.2, r) ∧ s'.1 = w_setF (w_winG tk n s p (c_tell f i) z sort) j a.1 ∧ KT f s'.2 := by
        intro y
        refine ⟨a, by rw [J_X10_windows_141, nI_1], ?_, i2⟩
        unfold w_setF w_winG
        rw [if_pos y, if_neg (by decide)]
      have yes : ¬ c_may n s p sort j = 0 → ∃ s' : Int32 × (Nat → Nat → Int32), J_X10_windows_77 (L_X10_windows_34 m SS) SS 0 (nI i) (nI p) sort a.1 (nI j) (a.2, r) = L_X10_windows_34 m SS 0 (nI i) (nI p) sort s'.1 (nI (j + 1)) (s'.2, r) ∧ s'.1 = w_setF (w_winG tk n s p (c_tell f i) z sort) j a.1 ∧ KT f s'.2 := by
        intro y
        have fin : ∀ f2 : Nat → Nat → Int32, KT f f2 → SQ f2 r 60 n tk (e_up s (c_wj sort) p (nI j)) → ∃ s' : Int32 × (Nat → Nat → Int32), J_X10_windows_117 (L_X10_windows_34 m SS) SS 0 (nI i) (nI p) sort a.1 (nI j) (f2, r) = L_X10_windows_34 m SS 0 (nI i) (nI p) sort s'.1 (nI (j + 1)) (s'.2, r) ∧ s'.1 = w_setF (w_winG tk n s p (c_tell f i) z sort) j a.1 ∧ KT f s'.2 := by
          intro f2 kt hq
          have hs1 := hs.kt hi kt
          obtain ⟨f3, c1, c2⟩ := sq_first hq hp hi hs1.2.2.1 (by omega) (c := c_tell f i) (fun k hk => by rw [hs1.2.2.2.2.2 k hk, kt 87 (by unfold NS; omega) (by omega)]; rfl)
          unfold J_X10_windows_117 w_setF w_winG
          rw [r2, Option.bind_some, rs, Option.bind_some, c1, Option.bind_some, if_neg y]
          by_cases q : w_first tk n (e_up s (c_wj sort) p (nI j)) p (c_tell f i) z = -1
          · rw [if_pos q, if_pos q]
            exact ⟨(a.1 ||| ((1 : Int32) <<< (nI j &&& 31)), f3), by rw [J_X10_windows_141, nI_1], rfl, kt.trans c2⟩
          · rw [if_neg q, if_neg q]
            exact ⟨(a.1, f3), by rw [J_X10_windows_141, nI_1], rfl, kt.trans c2⟩
        unfold J_X10_windows_77
        rw [r60, Option.bind_some, r52, Option.bind_some, b1, Option.bind_some]
        by_cases q : sort = 0
        · rw [if_pos q, r60, Option.bind_some, r61, Option.bind_some, s61, Option.bind_some]
          refine fin _ ((i2.trans b2).trans (KT.up (j := 1) (by omega))) ?_
          rw [show c_wj sort = 1 from if_pos q]
          exact b3.up (j := 1) (by omega) p _
        · rw [if_neg q, r60, Option.bind_some, r62, Option.bind_some, s62, Option.bind_some]
          refine fin _ ((i2.trans b2).trans (KT.up (j := 2) (by omega))) ?_
          rw [show c_wj sort = 2 from if_neg q]
          exact b3.up (j := 2) (by omega) p _
      show ∃ s' : Int32 × (Nat → Nat → Int32), L_X10_windows_34 (m + 1) SS 0 (nI i) (nI p) sort a.1 (nI j) (a.2, r) = L_X10_windows_34 m SS 0 (nI i) (nI p) sort s'.1 (nI (j + 1)) (s'.2, r) ∧ _
      rw [L_X10_windows_34, k20, if_neg (nI_ge hj (by omega))]
      by_cases q : sort = 0
      · have em : c_may n s p sort j = s_mayBe (s 1) n p (nI j) := if_pos q
        rw [if_pos q, r52, Option.bind_some, sq_mayBe h52 hp, Option.bind_some]
        by_cases y : s_mayBe (s 1) n p (nI j) = 0
        · rw [if_pos y]
          exact no (em.trans y)
        · rw [if_neg y]
          exact yes (by rw [em]; exact y)
      · have em : c_may n s p sort j = s_opp (s 1 p) (nI j) := if_neg q
        rw [if_neg q, r52, Option.bind_some, sq_mayLook h52 hp, Option.bind_some]
        by_cases y : s_opp (s 1 p) (nI j) = 0
        · rw [if_pos y]
          exact no (em.trans y)
        · rw [if_neg y]
          exact yes (by rw [em]; exact y))
    20 0 50000 0 (0, f) (by omega) (by omega) ⟨rfl, KT.rfl'⟩
  have h0 : nI 0 = (0 : Int32) := nI_0
  rw [h0] at key
  obtain ⟨q, k1, f', k2, k3⟩ := key
  exact ⟨f', k1.trans (by rw [k2]; rfl), k3⟩
theorem mw_windows {f : Nat → Nat → Int32} {r : Nat → Nat → Option Nat} {n : Nat} {tk : Nat → Nat → List (Nat × Int32)} {s : Nat → Nat → Int32} (h : MW f r n tk s) {p : Nat} (hp : p < n) {i z : Nat} (hi : i < 4) (hz : z ≤ 20) {so : Int32} (hs : SH f i so z) {sort : Int32} (h01 : sort = 0 ∨ sort = 1) : ∃ f', L_X11_windows_46 50000 SS 76 (nI i) (nI p) sort (s (c_wj sort) p) 0 0 (f, r) = some (w_set (w_winG tk n s p (c_tell f i) z sort) 20, (f', r)) ∧ KM f f' := by
  have hG : GG (f, r) := h.1.1
  have h6 := h.1.2.2
  have hp6 := h.lt hp
  have r79 : ∀ f, e_gR SS (f, r) 11 76 3 = some 79 := fun f => (rf11 (g := (f, r)) hG).2.2.1
  have k20 : (20 : Int32) = nI 20 := by decide +kernel
  have hcj : (c_wc sort = 0 ∧ c_wj sort = 1) ∨ (c_wc sort = 1 ∧ c_wj sort = 2) := by
    unfold c_wc c_wj
    by_cases q : sort = 0
    · exact Or.inl ⟨if_pos q, if_pos q⟩
    · exact Or.inr ⟨if_neg q, if_neg q⟩
  have esort : sort = nI (c_wc sort) := by
    unfold c_wc
    rcases h01 with q | q
    · rw [if_pos q, q, nI_0]
    · rw [if_neg (by rw [q]; decide), q]; decide +kernel
  have st : ∀ (f : Nat → Nat → Int32) v, e_aS SS (f, r) 0 79 ((4 : Int32) * nI p + sort) v = some (e_up f 79 (4 * p + c_wc sort) v, r) := fun f v => m_st hp6 (c := c_wc sort) (by omega) esort v
  have key := loopY (L := fun m k (a : Int32 × (Nat → Nat → Int32)) => L_X11_windows_46 m SS 76 (nI i) (nI p) sort (s (c_wj sort) p) a.1 k (a.2, r)) (n := 20) (F := w_setF (w_winG tk n s p (c_tell f i) z sort))
    (I := fun _ t a => a.1 = t ∧ KM f a.2) (P := fun t q => ∃ f', q = (t, (f', r)) ∧ KM f f')
    (fun m t a hI => by
      refine ⟨(t, (a.2, r)), ?_, a.2, rfl, hI.2⟩
      show L_X11_windows_46 (m + 1) SS 76 (nI i) (nI p) sort (s (c_wj sort) p) a.1 (nI 20) (a.2, r) = _
      rw [L_X11_windows_46, k20, if_pos (nI_le (Nat.le_refl _) (by omega)), hI.1])
    (fun m j t a hj hI => by
      obtain ⟨rfl, i2⟩ := hI
      have h1 := h.km i2
      have was : a.2 79 (4 * p + c_wc sort) = s (c_wj sort) p := by
        rcases hcj with ⟨y1, y2⟩ | ⟨y1, y2⟩
        · rw [y1, y2]; exact h1.row (j := 1) (by omega) (by omega) p hp
        · rw [y1, y2]; exact h1.row (j := 2) (by omega) (by omega) p hp
      have d1 : m_W (a.2, r) p = s 1 p := h1.row (j := 1) (by omega) (by omega) p hp
      have fin : ∀ v, v = c_may n s p sort j → ∃ s' : Int32 × (Nat → Nat → Int32), J_X11_windows_80 (L_X11_windows_46 m SS) SS 76 (nI i) (nI p) sort (s (c_wj sort) p) a.1 (nI j) v (a.2, r) = L_X11_windows_46 m SS 76 (nI i) (nI p) sort (s (c_wj sort) p) s'.1 (nI (j + 1)) (s'.2, r) ∧ s'.1 = w_setF (w_winG tk n s p (c_tell f i) z sort) j a.1 ∧ KM f s'.2 := by
        intro v ev
        subst ev
        unfold J_X11_windows_80
        by_cases y : c_may n s p sort j = 0
        · rw [if_pos y]
          refine ⟨a, by rw [J_X11_windows_134, nI_1], ?_, i2⟩
          unfold w_setF w_winG
          rw [if_pos y, if_neg (by decide)]
        · rw [if_neg y, r79, Option.bind_some, st, Option.bind_some]
          have h2 := h1.up (c := c_wc sort) (j := c_wj sort) (by omega) p (nI j) (wf_may h.2.2.1 h6 hp y)
          have hs1 := hs.of hi ((FR.km i2).trans (FR.up (a := 79) (k := 4 * p + c_wc sort) (v := nI j) (by omega)))
          obtain ⟨f2, c1, c2⟩ := mw_first h2 hp hi hs1.2.2.2.1 (by omega) (c := c_tell f i) (fun k' hk => by rw [e_up_row (by omega), i2.1 87 (by omega) (by omega) (by omega)]; rfl)
          have km : KM f (e_up f2 79 (4 * p + c_wc sort) (s (c_wj sort) p)) := i2.trans (by rw [← was]; exact c2.back)
          rw [c1, Option.bind_some]
          unfold w_setF w_winG J_X11_windows_119
          rw [if_neg y]
          by_cases q : w_first tk n (e_up s (c_wj sort) p (nI j)) p (c_tell f i) z = -1
          · rw [if_pos q, if_pos q, r79, Option.bind_some, st, Option.bind_some]
            exact ⟨(a.1 ||| ((1 : Int32) <<< (nI j &&& 31)), e_up f2 79 (4 * p + c_wc sort) (s (c_wj sort) p)), by rw [J_X11_windows_134, nI_1], rfl, km⟩
          · rw [if_neg q, if_neg q, r79, Option.bind_some, st, Option.bind_some]
            exact ⟨(a.1, e_up f2 79 (4 * p + c_wc sort) (s (c_wj sort) p)), by rw [J_X11_windows_134, nI_1, or_0], rfl, km⟩
      show ∃ s' : Int32 × (Nat → Nat → Int32), L_X11_windows_46 (m + 1) SS 76 (nI i) (nI p) sort (s (c_wj sort) p) a.1 (nI j) (a.2, r) = L_X11_windows_46 m SS 76 (nI i) (nI p) sort (s (c_wj sort) p) s'.1 (nI (j + 1)) (s'.2, r) ∧ _
      rw [L_X11_windows_46, k20, if_neg (nI_ge hj (by omega))]
      by_cases q : sort = 0
      · have em : c_may n s p sort j = s_mayBe (s 1) n p (nI j) := if_pos q
        rw [if_pos q, mw_mayBe h1 hp, Option.bind_some]
        exact fin _ em.symm
      · have em : c_may n s p sort j = s_opp (s 1 p) (nI j) := if_neg q
        rw [if_neg q, r79, Option.bind_some, m_aW (a.2, r) hp6, Option.bind_some, d1, m_acr, Option.bind_some]
        exact fin _ em.symm)
    20 0 50000 0 (0, f) (by omega) (by omega) ⟨rfl, KM.rfl'⟩
  have h0 : nI 0 = (0 : Int32) := nI_0
  rw [h0] at key
  obtain ⟨q, k1, f', k2, k3⟩ := key
  exact ⟨f', k1.trans (by rw [k2]; rfl), k3⟩
theorem ok_windows : OK_windows SS Inv_ := by
  intro g a1 a2 a3 hI
  obtain ⟨f, r⟩ := g
  obtain ⟨n, tc, tz, tk, s, h⟩ := hI
  have h : IN f r n tc tz tk s := h
  have hG : GG (f, r) := h.1.cs.1
  have hw := h.2.1.2.2.1
  rcases rf_or h a1 a2 with ⟨v, v0, e1, e2⟩ | ⟨i, z, so, p, hi, rfl, hz, hs, hp, rfl, e1, e2⟩
  · exact ask0 h v (by unfold f_X10_windows; rw [if_pos ob10, e1, Option.bind_some, if_neg v0]) (by unfold f_X11_windows; rw [if_pos ob11, e2 f KT.rfl', Option.bind_some, if_neg v0])
  · have x2 : ∀ f1, KT f f1 → f_X11_windows SS 76 (nI i) (nI p) a3 (f1, r) = if s_in a3 0 1 = 0 then some (-7, (f1, r)) else (e_aI SS (f1, r) 0 79 ((4 : Int32) * nI p + a3)).bind fun v7 => L_X11_windows_46 50000 SS 76 (nI i) (nI p) a3 v7 0 0 (f1, r) := by
      intro f1 k
      have h11 := rf11 (show GG (f1, r) from hG)
      unfold f_X11_windows
      rw [if_pos ob11, e2 f1 k, Option.bind_some, if_pos rfl, m_in, Option.bind_some, h11.2.2.1, Option.bind_some]
    rcases arg3 a3 1 2 1 (by decide +kernel) (by decide +kernel) (by omega) with ⟨p1, p2⟩ | ⟨p1, p2, p3, p4, p5, p6⟩ | ⟨e, he, ee, p1, p2, p3, p4, p5, p6⟩
    · exact ask0 h (-7) (by unfold f_X10_windows; rw [if_pos ob10, e1, Option.bind_some, if_pos rfl, if_pos p1]) (by rw [x2 f KT.rfl', p2, if_pos rfl])
    · exact ask0 h (-7) (by unfold f_X10_windows; rw [if_pos ob10, e1, Option.bind_some, if_pos rfl, if_neg p1, if_neg p4]) (by rw [x2 f KT.rfl', p6, if_pos rfl])
    · have h01 : a3 = 0 ∨ a3 = 1 := by
        match e, he with
        | 0, _ => exact Or.inl ee
        | 1, _ => exact Or.inr ee
      refine ask2 h (w_set (w_winG tk n s p (c_tell f i) z a3) 20) ?_ (fun f1 k h1 => ?_)
      · obtain ⟨f2, c1, c2⟩ := sq_windows h.1 hw hp hi hz hs a3
        refine ⟨f2, ?_, c2⟩
        unfold f_X10_windows
        rw [if_pos ob10, e1, Option.bind_some, if_pos rfl, if_neg p1, if_pos p4]
        exact c1
      · obtain ⟨f2, c1, c2⟩ := mw_windows h1.2.1 hp hi hz (hs.kt hi k) h01
        refine ⟨f2, ?_, c2⟩
        have was : e_aI SS (f1, r) 0 79 ((4 : Int32) * nI p + a3) = some (s (c_wj a3) p) := by
          rcases h01 with q | q
          · rw [q, Int32.add_zero, m_aW (f1, r) (h.2.1.lt hp)]
            rw [show m_W (f1, r) p = s 1 p from h1.2.1.row (j := 1) (by omega) (by omega) p hp]
            rfl
          · rw [q, m_aL (f1, r) (h.2.1.lt hp)]
            rw [show m_L (f1, r) p = s 2 p from h1.2.1.row (j := 2) (by omega) (by omega) p hp]
            rfl
        rw [x2 f1 k, p6, if_neg (show ¬ (1 : Int32) = 0 by decide), was, Option.bind_some, c1, c_tell_kt k]
/-! leans -/
def w_leansF (G : Nat → Int32) (l : Nat) (a : Int32 × Int32) : Int32 × Int32 := if G l = -1 then (a.1 + 1, if a.2 = -1 then nI l else a.2) else a
def w_leans (G : Nat → Int32) : Int32 × Int32 := itF (w_leansF G) 100 0 (0, -1)
def w_leanG (tk : Nat → Nat → List (Nat × Int32)) (n : Nat) (s : Nat → Nat → Int32) (p : Nat) (c : Nat → Int32) (z : Nat) (l : Nat) : Int32 := w_first tk n (e_up s 3 p (nI l)) p c z
theorem sq_leans {f : Nat → Nat → Int32} {r : Nat → Nat → Option Nat} {n : Nat} {tk : Nat → Nat → List (Nat × Int32)} {s : Nat → Nat → Int32} (h : SQ f r 52 n tk s) (hw : w_wf n s) {p : Nat} (hp : p < n) {i z : Nat} (hi : i < 4) (hz : z ≤ 20) {so : Int32} (hs : SH f i so z) (l3 : Int32) : ∃ f', L_X10_leans_37 50000 SS 0 (nI i) (nI p) l3 0 (-1) 0 (f, r) = some (if l3 = 0 then (w_leans (w_leanG tk n s p (c_tell f i) z)).1 else (w_leans (w_leanG tk n s p (c_tell f i) z)).2, (f', r)) ∧ KT f f' := by
  have hG : GG (f, r) := h.cs.1
  have h6 := h.le
  have hS : IsS 60 := Or.inr (Or.inl rfl)
  have r52 : ∀ f, e_gR SS (f, r) 10 0 2 = some 52 := fun f => (rf10 (g := (f, r)) hG).2.2.1
  have r60 : ∀ f, e_gR SS (f, r) 10 0 3 = some 60 := fun f => (rf10 (g := (f, r)) hG).2.2.2.1
  have r2 : ∀ f, e_gR SS (f, r) 10 0 1 = some 2 := fun f => (rf10 (g := (f, r)) hG).2.1
  have rs : ∀ f : Nat → Nat → Int32, e_aR SS (f, r) 4 2 (nI i) = some (37 + 2 * i) := fun f => rfShs (show GG (f, r) from hG) hi
  have r63 : ∀ f, e_gR SS (f, r) 7 60 2 = some 63 := fun f => (rfS (g := (f, r)) hG hS).2.2.1
  have s63 : ∀ (f : Nat → Nat → Int32) (v : Int32), e_aS SS (f, r) 0 63 (nI p) v = some (e_up f 63 p v, r) := fun f v => aS_ok (arS hS).2.2.1 (by omega) (by omega)
  have k99 : (99 : Int32) = nI 99 := by decide +kernel
  have key := loopY (L := fun m k (a : (Int32 × Int32) × (Nat → Nat → Int32)) => L_X10_leans_37 m SS 0 (nI i) (nI p) l3 a.1.1 a.1.2 k (a.2, r)) (n := 100) (F := w_leansF (w_leanG tk n s p (c_tell f i) z))
    (I := fun _ t a => a.1 = t ∧ KT f a.2) (P := fun t q => ∃ f', q = (if l3 = 0 then t.1 else t.2, (f', r)) ∧ KT f f')
    (fun m t a hI => by
      refine ⟨(if l3 = 0 then t.1 else t.2, (a.2, r)), ?_, a.2, rfl, hI.2⟩
      show L_X10_leans_37 (m + 1) SS 0 (nI i) (nI p) l3 a.1.1 a.1.2 (nI 100) (a.2, r) = _
      rw [L_X10_leans_37, k99, if_pos (nI_lt (by omega) (by omega)), hI.1]
      split <;> rfl)
    (fun m j t a hj hI => by
      obtain ⟨rfl, i2⟩ := hI
      have h52 := h.kt (Or.inl rfl) i2
      obtain ⟨f1, b1, b2, b3⟩ := sq_think h52 hw
      have b4 := b3.up (j := 3) (by omega) p (nI j)
      have kt : KT f (e_up f1 63 p (nI j)) := (i2.trans b2).trans (KT.up (j := 3) (by omega))
      have hs1 := hs.kt hi kt
      obtain ⟨f3, c1, c2⟩ := sq_first b4 hp hi hs1.2.2.1 (by omega) (c := c_tell f i) (fun k hk => by
        have := hs1.2.2.2.2.2 k hk
        rw [kt 87 (by unfold NS; omega) (by omega)] at this
        exact this)
      show ∃ s' : (Int32 × Int32) × (Nat → Nat → Int32), L_X10_leans_37 (m + 1) SS 0 (nI i) (nI p) l3 a.1.1 a.1.2 (nI j) (a.2, r) = L_X10_leans_37 m SS 0 (nI i) (nI p) l3 s'.1.1 s'.1.2 (nI (j + 1)) (s'.2, r) ∧ _
      rw [L_X10_leans_37, k99, if_neg (nI_nlt (by omega) (by omega)), r60, Option.bind_some, r52, Option.bind_some, b1, Option.bind_some, r60, Option.bind_some, r63, Option.bind_some, s63, Option.bind_some, r2, Option.bind_some, rs, Option.bind_some, c1, Option.bind_some]
      unfold w_leansF w_leanG
      by_cases q : w_first tk n (e_up s 3 p (nI j)) p (c_tell f i) z = -1
      · rw [if_pos q, if_pos q]
        by_cases y : a.1.2 = -1
        · rw [if_pos y, if_pos y]
          exact ⟨((a.1.1 + 1, nI j), f3), by rw [J_X10_leans_97, nI_1], rfl, kt.trans c2⟩
        · rw [if_neg y, if_neg y]
          exact ⟨((a.1.1 + 1, a.1.2), f3), by rw [J_X10_leans_97, nI_1], rfl, kt.trans c2⟩
      · rw [if_neg q, if_neg q]
        exact ⟨(a.1, f3), by rw [J_X10_leans_97, nI_1], rfl, kt.trans c2⟩)
    100 0 50000 (0, -1) ((0, -1), f) (by omega) (by omega) ⟨rfl, KT.rfl'⟩
  have h0 : nI 0 = (0 : Int32) := nI_0
  rw [h0] at key
  obtain ⟨q, k1, f', k2, k3⟩ := key
  exact ⟨f', k1.trans (by rw [k2]; rfl), k3⟩
theorem mw_leans {f : Nat → Nat → Int32} {r : Nat → Nat → Option Nat} {n : Nat} {tk : Nat → Nat → List (Nat × Int32)} {s : Nat → Nat → Int32} (h : MW f r n tk s) {p : Nat} (hp : p < n) {i z : Nat} (hi : i < 4) (hz : z ≤ 20) {so : Int32} (hs : SH f i so z) (l3 : Int32) : ∃ f', L_X11_leans_49 50000 SS 76 (nI i) (nI p) l3 (s 3 p) 0 (-1) 0 (f, r) = some (if l3 = 0 then (w_leans (w_leanG tk n s p (c_tell f i) z)).1 else (w_leans (w_leanG tk n s p (c_tell f i) z)).2, (f', r)) ∧ KM f f' := by
  have hG : GG (f, r) := h.1.1
  have h6 := h.1.2.2
  have hp6 := h.lt hp
  have r79 : ∀ f, e_gR SS (f, r) 11 76 3 = some 79 := fun f => (rf11 (g := (f, r)) hG).2.2.1
  have st : ∀ (f : Nat → Nat → Int32) v, e_aS SS (f, r) 0 79 ((4 : Int32) * nI p + 2) v = some (e_up f 79 (4 * p + 2) v, r) := fun f v => m_st hp6 (c := 2) (by omega) (by decide +kernel) v
  have was : f 79 (4 * p + 2) = s 3 p := h.row (j := 3) (by omega) (by omega) p hp
  have k99 : (99 : Int32) = nI 99 := by decide +kernel
  have key := loopY (L := fun m k (a : (Int32 × Int32) × (Nat → Nat → Int32)) => L_X11_leans_49 m SS 76 (nI i) (nI p) l3 (s 3 p) a.1.1 a.1.2 k (a.2, r)) (n := 100) (F := w_leansF (w_leanG tk n s p (c_tell f i) z))
    (I := fun _ t a => a.1 = t ∧ KM f (e_up a.2 79 (4 * p + 2) (s 3 p)) ∧ ∃ x, MW a.2 r n tk (e_up s 3 p x)) (P := fun t q => ∃ f', q = (if l3 = 0 then t.1 else t.2, (f', r)) ∧ KM f f')
    (fun m t a hI => by
      refine ⟨(if l3 = 0 then t.1 else t.2, (e_up a.2 79 (4 * p + 2) (s 3 p), r)), ?_, _, rfl, hI.2.1⟩
      show L_X11_leans_49 (m + 1) SS 76 (nI i) (nI p) l3 (s 3 p) a.1.1 a.1.2 (nI 100) (a.2, r) = _
      rw [L_X11_leans_49, k99, if_pos (nI_lt (by omega) (by omega)), r79, Option.bind_some, st, Option.bind_some, hI.1]
      split <;> rfl)
    (fun m j t a hj hI => by
      obtain ⟨rfl, i2, x, i3⟩ := hI
      have h2 := i3.up (c := 2) (j := 3) (by omega) p (nI j) (by rw [e_up_up]; exact h.2.2.1.up3 p hj)
      rw [e_up_up] at h2
      have km2 : KM f (e_up (e_up a.2 79 (4 * p + 2) (nI j)) 79 (4 * p + 2) (s 3 p)) := by rw [e_up_up]; exact i2
      have e86 : e_up a.2 79 (4 * p + 2) (nI j) 86 = f 86 := by
        have := km2.1 86 (by omega) (by omega) (by omega)
        rw [e_up_row (by omega)] at this
        exact this
      have e87 : e_up a.2 79 (4 * p + 2) (nI j) 87 = f 87 := by
        have := km2.1 87 (by omega) (by omega) (by omega)
        rw [e_up_row (by omega)] at this
        exact this
      obtain ⟨f2, c1, c2⟩ := mw_first h2 hp hi (z := z) (by rw [e86]; exact hs.2.2.2.1) (by omega) (c := c_tell f i) (fun k' hk => by rw [e87]; rfl)
      have km : KM f (e_up f2 79 (4 * p + 2) (s 3 p)) := km2.trans (c2.under _ _)
      show ∃ s' : (Int32 × Int32) × (Nat → Nat → Int32), L_X11_leans_49 (m + 1) SS 76 (nI i) (nI p) l3 (s 3 p) a.1.1 a.1.2 (nI j) (a.2, r) = L_X11_leans_49 m SS 76 (nI i) (nI p) l3 (s 3 p) s'.1.1 s'.1.2 (nI (j + 1)) (s'.2, r) ∧ _
      rw [L_X11_leans_49, k99, if_neg (nI_nlt (by omega) (by omega)), r79, Option.bind_some, st, Option.bind_some, c1, Option.bind_some]
      unfold w_leansF w_leanG J_X11_leans_83 J_X11_leans_97 J_X11_leans_116 J_X11_leans_118
      by_cases q : w_first tk n (e_up s 3 p (nI j)) p (c_tell f i) z = -1
      · rw [if_pos q, if_pos q, if_neg (show ¬ (1 : Int32) = 0 by decide), if_neg (show ¬ (1 : Int32) = 0 by decide)]
        by_cases y : a.1.2 = -1
        · rw [if_pos y, if_pos y]
          exact ⟨((a.1.1 + 1, nI j), f2), by rw [nI_1], rfl, km, _, h2.km c2⟩
        · rw [if_neg y, if_neg y]
          exact ⟨((a.1.1 + 1, a.1.2), f2), by rw [nI_1], rfl, km, _, h2.km c2⟩
      · rw [if_neg q, if_neg q, if_pos rfl, if_pos rfl, add_0]
        exact ⟨(a.1, f2), by rw [nI_1], rfl, km, _, h2.km c2⟩)
    100 0 50000 (0, -1) ((0, -1), f) (by omega) (by omega) ⟨rfl, by show KM f (e_up f 79 (4 * p + 2) (s 3 p)); rw [← was, e_up_id]; exact KM.rfl', s 3 p, by rw [e_up_id]; exact h⟩
  have h0 : nI 0 = (0 : Int32) := nI_0
  rw [h0] at key
  obtain ⟨q, k1, f', k2, k3⟩ := key
  exact ⟨f', k1.trans (by rw [k2]; rfl), k3⟩
theorem ok_leans : OK_leans SS Inv_ := by
  intro g a1 a2 a3 hI
  obtain ⟨f, r⟩ := g
  obtain ⟨n, tc, tz, tk, s, h⟩ := hI
  have h : IN f r n tc tz tk s := h
  have hG : GG (f, r) := h.1.cs.1
  have hw := h.2.1.2.2.1
  rcases rf_or h a1 a2 with ⟨v, v0, e1, e2⟩ | ⟨i, z, so, p, hi, rfl, hz, hs, hp, rfl, e1, e2⟩
  · exact ask0 h v (by unfold f_X10_leans; rw [if_pos ob10, e1, Option.bind_some, if_neg v0]) (by unfold f_X11_leans; rw [if_pos ob11, e2 f KT.rfl', Option.bind_some, if_neg v0])
  · have x2 : ∀ f1, KT f f1 → IN f1 r n tc tz tk s → f_X11_leans SS 76 (nI i) (nI p) a3 (f1, r) = if s_in a3 0 1 = 0 then some (-7, (f1, r)) else L_X11_leans_49 50000 SS 76 (nI i) (nI p) a3 (s 3 p) 0 (-1) 0 (f1, r) := by
      intro f1 k h1
      have h11 := rf11 (show GG (f1, r) from hG)
      have w3 : m_N (f1, r) p = s 3 p := h1.2.1.row (j := 3) (by omega) (by omega) p hp
      unfold f_X11_leans
      rw [if_pos ob11, e2 f1 k, Option.bind_some, if_pos rfl, m_in, Option.bind_some, h11.2.2.1, Option.bind_some, m_aN (f1, r) (h.2.1.lt hp), Option.bind_some, w3]
    rcases arg3 a3 1 2 1 (by decide +kernel) (by decide +kernel) (by omega) with ⟨p1, p2⟩ | ⟨p1, p2, p3, p4, p5, p6⟩ | ⟨e, he, ee, p1, p2, p3, p4, p5, p6⟩
    · exact ask0 h (-7) (by unfold f_X10_leans; rw [if_pos ob10, e1, Option.bind_some, if_pos rfl, if_pos p1]) (by rw [x2 f KT.rfl' h, p2, if_pos rfl])
    · exact ask0 h (-7) (by unfold f_X10_leans; rw [if_pos ob10, e1, Option.bind_some, if_pos rfl, if_neg p1, if_neg p4]) (by rw [x2 f KT.rfl' h, p6, if_pos rfl])
    · refine ask2 h (if a3 = 0 then (w_leans (w_leanG tk n s p (c_tell f i) z)).1 else (w_leans (w_leanG tk n s p (c_tell f i) z)).2) ?_ (fun f1 k h1 => ?_)
      · obtain ⟨f2, c1, c2⟩ := sq_leans h.1 hw hp hi hz hs a3
        refine ⟨f2, ?_, c2⟩
        unfold f_X10_leans
        rw [if_pos ob10, e1, Option.bind_some, if_pos rfl, if_neg p1, if_pos p4]
        exact c1
      · obtain ⟨f2, c1, c2⟩ := mw_leans h1.2.1 hp hi hz (hs.kt hi k) a3
        refine ⟨f2, ?_, c2⟩
        rw [x2 f1 k h1, p6, if_neg (show ¬ (1 : Int32) = 0 by decide), c1, c_tell_kt k]
/-! laws -/
def w_lawG (tk : Nat → Nat → List (Nat × Int32)) (n : Nat) (s : Nat → Nat → Int32) (p : Nat) (c : Nat → Int32) (z : Nat) (t : Nat) : Int32 := w_first tk n (e_up s 0 8 (nI t)) p c z
theorem KT.up8 {f : Nat → Nat → Int32} {k : Nat} {v : Int32} : KT f (e_up f 60 k v) := fun b _ h2 => e_up_row (by omega)
theorem ok_laws : OK_laws SS Inv_ := by
  intro g a1 a2 hI
  obtain ⟨f, r⟩ := g
  obtain ⟨n, tc, tz, tk, s, h⟩ := hI
  have h : IN f r n tc tz tk s := h
  have hG : GG (f, r) := h.1.cs.1
  have h6 := h.1.le
  have hw := h.2.1.2.2.1
  have h0 : nI 0 = (0 : Int32) := nI_0
  have t6 := h.2.2.1.2.2.2
  rcases rf_or h a1 a2 with ⟨v, v0, e1, e2⟩ | ⟨i, z, so, p, hi, rfl, hz, hs, hp, rfl, e1, e2⟩
  · exact ask0 h v (by unfold f_X10_laws; rw [if_pos ob10, e1, Option.bind_some, if_neg v0]) (by unfold f_X11_laws; rw [if_pos ob11, e2 f KT.rfl', Option.bind_some, if_neg v0])
  · refine ask2 h (w_set (w_lawG tk n s p (c_tell f i) z) tc) ?_ (fun f1 k h1 => ?_)
    · have b60 : e_ob SS 7 60 = true := obS (Or.inr (Or.inl rfl))
      have r52 : ∀ f, e_gR SS (f, r) 10 0 2 = some 52 := fun f => (rf10 (g := (f, r)) hG).2.2.1
      have r60 : ∀ f, e_gR SS (f, r) 10 0 3 = some 60 := fun f => (rf10 (g := (f, r)) hG).2.2.2.1
      have r2 : ∀ f, e_gR SS (f, r) 10 0 1 = some 2 := fun f => (rf10 (g := (f, r)) hG).2.1
      have rs : ∀ f : Nat → Nat → Int32, e_aR SS (f, r) 4 2 (nI i) = some (37 + 2 * i) := fun f => rfShs (show GG (f, r) from hG) hi
      have key := loopY (L := fun m k (a : Int32 × (Nat → Nat → Int32)) => L_X10_laws_19 m SS 0 (nI i) (nI p) a.1 k (a.2, r)) (n := tc) (F := w_setF (w_lawG tk n s p (c_tell f i) z))
        (I := fun _ t a => a.1 = t ∧ KT f a.2) (P := fun t q => ∃ f', q = (t, (f', r)) ∧ KT f f')
        (fun m t a hI => by
          have h2 := h.kt hI.2
          refine ⟨(t, (a.2, r)), ?_, a.2, rfl, hI.2⟩
          show L_X10_laws_19 (m + 1) SS 0 (nI i) (nI p) a.1 (nI tc) (a.2, r) = _
          rw [L_X10_laws_19, gI_ok ob10, Option.bind_some, show (a.2, r).1 0 9 = nI tc from h2.2.2.1.1, if_pos (nI_le (Nat.le_refl tc) (by omega)), hI.1])
        (fun m j t a hj hI => by
          obtain ⟨rfl, i2⟩ := hI
          have h2 := h.kt i2
          obtain ⟨f1, b1, b2, b3⟩ := sq_think h2.1 hw
          have h3 := h2.kt b2
          obtain ⟨hT, -, hk⟩ := h3.2.2.2.2.1 j hj
          have b4 := b3.setl (show j < 6 by omega) hT hk
          have kt : KT f (e_up f1 60 8 (nI j)) := (i2.trans b2).trans KT.up8
          have hs1 := hs.kt hi kt
          obtain ⟨f3, c1, c2⟩ := sq_first b4 hp hi hs1.2.2.1 (by omega) (c := c_tell f i) (fun k hk => by
            have := hs1.2.2.2.2.2 k hk
            rw [kt 87 (by unfold NS; omega) (by omega)] at this
            exact this)
          show ∃ s' : Int32 × (Nat → Nat → Int32), L_X10_laws_19 (m + 1) SS 0 (nI i) (nI p) a.1 (nI j) (a.2, r) = L_X10_laws_19 m SS 0 (nI i) (nI p) s'.1 (nI (j + 1)) (s'.2, r) ∧ _
          rw [L_X10_laws_19, gI_ok ob10, Option.bind_some, show (a.2, r).1 0 9 = nI tc from h2.2.2.1.1, if_neg (nI_ge hj (by omega)), r60, Option.bind_some, r52, Option.bind_some, b1, Option.bind_some, r60, Option.bind_some, sI_ok b60, Option.bind_some, r2, Option.bind_some, rs, Option.bind_some, c1, Option.bind_some]
          unfold w_setF w_lawG
          by_cases q : w_first tk n (e_up s 0 8 (nI j)) p (c_tell f i) z = -1
          · rw [if_pos q, if_pos q]
            exact ⟨(a.1 ||| ((1 : Int32) <<< (nI j &&& 31)), f3), by rw [J_X10_laws_72, nI_1], rfl, kt.trans c2⟩
          · rw [if_neg q, if_neg q]
            exact ⟨(a.1, f3), by rw [J_X10_laws_72, nI_1], rfl, kt.trans c2⟩)
        tc 0 50000 0 (0, f) (by omega) (by omega) ⟨rfl, KT.rfl'⟩
      rw [h0] at key
      obtain ⟨q, k1, f', k2, k3⟩ := key
      refine ⟨f', ?_, k3⟩
      unfold f_X10_laws
      rw [if_pos ob10, e1, Option.bind_some, if_pos rfl]
      exact k1.trans (by rw [k2]; rfl)
    · have was : f1 76 10 = s 0 8 := h1.2.1.2.1.1.2
      have hs1 := hs.kt hi k
      obtain ⟨t0, t01, t02⟩ := h.2.2.2.2.2.1
      have key := loopY (L := fun m k (a : Int32 × (Nat → Nat → Int32)) => L_X11_laws_25 m SS 76 (nI i) (nI p) (s 0 8) a.1 k (a.2, r)) (n := tc) (F := w_setF (w_lawG tk n s p (c_tell f i) z))
        (I := fun _ t a => a.1 = t ∧ KM f1 (e_up a.2 76 10 (s 0 8)) ∧ ∃ x, MW a.2 r n tk (e_up s 0 8 x)) (P := fun t q => ∃ f', q = (t, (f', r)) ∧ KM f1 f')
        (fun m t a hI => by
          have e9 : a.2 76 9 = nI tc := by
            have := hI.2.1.2.2 9 (by omega)
            rw [e_up_ne (Or.inr (by omega))] at this
            rw [this]
            exact h1.2.2.1.2.1
          refine ⟨(t, (e_up a.2 76 10 (s 0 8), r)), ?_, _, rfl, hI.2.1⟩
          show L_X11_laws_25 (m + 1) SS 76 (nI i) (nI p) (s 0 8) a.1 (nI tc) (a.2, r) = _
          rw [L_X11_laws_25, gI_ok ob11, Option.bind_some, show (a.2, r).1 76 9 = nI tc from e9, if_pos (nI_le (Nat.le_refl tc) (by omega)), sI_ok ob11, Option.bind_some, hI.1])
        (fun m j t a hj hI => by
          obtain ⟨rfl, i2, x, i3⟩ := hI
          have e9 : a.2 76 9 = nI tc := by
            have := i2.2.2 9 (by omega)
            rw [e_up_ne (Or.inr (by omega))] at this
            rw [this]
            exact h1.2.2.1.2.1
          obtain ⟨-, hR, hk⟩ := h1.2.2.2.2.1 j hj
          have q81 : a.2 81 = f1 81 := by
            have := i2.1 81 (by omega) (by omega) (by omega)
            rw [e_up_row (by omega)] at this
            exact this
          have q82 : a.2 82 = f1 82 := by
            have := i2.1 82 (by omega) (by omega) (by omega)
            rw [e_up_row (by omega)] at this
            exact this
          have h2 := i3.setl (show j < 6 by omega) (hR.of q81 q82) hk
          rw [e_up_up] at h2
          have km2 : KM f1 (e_up (e_up a.2 76 10 (nI j)) 76 10 (s 0 8)) := by rw [e_up_up]; exact i2
          have e86 : e_up a.2 76 10 (nI j) 86 = f1 86 := by
            have := km2.1 86 (by omega) (by omega) (by omega)
            rw [e_up_row (by omega)] at this
            exact this
          have e87 : e_up a.2 76 10 (nI j) 87 = f1 87 := by
            have := km2.1 87 (by omega) (by omega) (by omega)
            rw [e_up_row (by omega)] at this
            exact this
          obtain ⟨f2, c1, c2⟩ := mw_first h2 hp hi (z := z) (by rw [e86]; exact hs1.2.2.2.1) (by omega) (c := c_tell f i) (fun k' hk => by rw [e87, k 87 (by unfold NS; omega) (by omega)]; rfl)
          have km : KM f1 (e_up f2 76 10 (s 0 8)) := km2.trans ⟨fun b b1 b2 b3 => by rw [e_up_row b3, e_up_row b3]; exact c2.1 b b1 b2 b3, fun k hk => by rw [e_up_row (by omega), e_up_row (by omega)]; exact c2.2.1 k hk, fun k hk => by
            rw [e_up_at, e_up_at]
            split
            · rfl
            · exact c2.2.2 k hk⟩
          show ∃ s' : Int32 × (Nat → Nat → Int32), L_X11_laws_25 (m + 1) SS 76 (nI i) (nI p) (s 0 8) a.1 (nI j) (a.2, r) = L_X11_laws_25 m SS 76 (nI i) (nI p) (s 0 8) s'.1 (nI (j + 1)) (s'.2, r) ∧ _
          rw [L_X11_laws_25, gI_ok ob11, Option.bind_some, show (a.2, r).1 76 9 = nI tc from e9, if_neg (nI_ge hj (by omega)), sI_ok ob11, Option.bind_some, c1, Option.bind_some]
          unfold w_setF w_lawG
          by_cases q : w_first tk n (e_up s 0 8 (nI j)) p (c_tell f i) z = -1
          · rw [if_pos q, if_pos q]
            exact ⟨(a.1 ||| ((1 : Int32) <<< (nI j &&& 31)), f2), by rw [J_X11_laws_60, nI_1], rfl, km, _, h2.km c2⟩
          · rw [if_neg q, if_neg q]
            exact ⟨(a.1, f2), by rw [J_X11_laws_60, nI_1, or_0], rfl, km, _, h2.km c2⟩)
        tc 0 50000 0 (0, f1) (by omega) (by omega) ⟨rfl, by show KM f1 (e_up f1 76 10 (s 0 8)); rw [← was, e_up_id]; exact KM.rfl', s 0 8, by rw [e_up_id]; exact h1.2.1⟩
      rw [h0] at key
      obtain ⟨q, k1, f', k2, k3⟩ := key
      refine ⟨f', ?_, k3⟩
      unfold f_X11_laws
      rw [if_pos ob11, e2 f1 k, Option.bind_some, if_pos rfl, gI_ok ob11, Option.bind_some, show (f1, r).1 76 10 = s 0 8 from was]
      exact k1.trans (by rw [k2]; rfl)
