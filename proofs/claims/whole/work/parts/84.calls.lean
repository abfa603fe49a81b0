/-! kinds, windows, leans, laws -/
theorem SQ.upk {f : Nat → Nat → Int32} {r : Nat → Nat → Option Nat} {o n : Nat} {tk : Nat → Nat → List (Nat × Int32)} {s : Nat → Nat → Int32} (h : SQ f r o n tk s) (p : Nat) {v : Nat} (hv : v < 6) : SQ (e_up f (o + 4) p (nI v)) r o n tk (e_up s 4 p (nI v)) := by
  obtain ⟨s0, h1, h2⟩ := h
  have hb := h1.1.2.1.big
  have r0 : ∀ b, b ≠ o + 4 → e_up f (o + 4) p (nI v) b = f b := fun b hb => e_up_row hb
  refine ⟨e_up s0 4 p (nI v), ⟨⟨h1.1.1, h1.1.2.1, ?_, h1.1.2.2.2⟩, HT_of h1.2.1 (by rw [r0 o (by omega)]) (fun b hb => r0 b (by omega)), ?_, ?_⟩, h2.up 4 p _⟩
  · show e_up f (o + 4) p (nI v) o 6 = _
    rw [r0 o (by omega)]
    exact h1.1.2.2.1
  · intro q hq
    show e_up f (o + 4) p (nI v) (o + q) = _
    by_cases e : q = 4
    · subst e
      funext k
      rw [e_up_at, e_up_at]
      rw [show f (o + 4) = s0 4 from h1.2.2.1 4 hq]
    · rw [r0 _ (by omega), show e_up s0 4 p (nI v) q = s0 q from e_up_row e]
      exact h1.2.2.1 q hq
  · intro q hq
    rw [e_up_at]
    split
    · exact ⟨v, hv, rfl⟩
    · exact h1.2.2.2 q hq
theorem w_wf.upk {n : Nat} {s : Nat → Nat → Int32} (h : w_wf n s) (i : Nat) {v : Nat} (hv : v < 6) : w_wf n (e_up s 4 i (nI v)) := by
  refine ⟨fun p hp => ?_, h.2⟩
  obtain ⟨h1, h2, ⟨k, hk, e⟩, h4⟩ := h.1 p hp
  refine ⟨h1, h2, ?_, h4⟩
  rw [e_up_at]
  split
  · exact ⟨v, hv, rfl⟩
  · exact ⟨k, hk, e⟩
theorem w_wf.upm {n : Nat} {s : Nat → Nat → Int32} (h : w_wf n s) (i : Nat) {v : Nat} (hv : v < 10) : w_wf n (e_up s 5 i (nI v)) := by
  refine ⟨fun p hp => ?_, h.2⟩
  obtain ⟨h1, h2, h3, ⟨k, hk, e⟩, h5⟩ := h.1 p hp
  refine ⟨h1, h2, h3, ?_, h5⟩
  rw [e_up_at]
  split
  · exact ⟨v, hv, rfl⟩
  · exact ⟨k, hk, e⟩
theorem MW.up7 {f : Nat → Nat → Int32} {r : Nat → Nat → Option Nat} {n : Nat} {tk : Nat → Nat → List (Nat × Int32)} {s : Nat → Nat → Int32} (h : MW f r n tk s) {q j : Nat} (hq : (q = 77 ∧ j = 4) ∨ (q = 78 ∧ j = 5)) (i : Nat) (v : Int32) (hw : w_wf n (e_up s j i v)) : MW (e_up f q i v) r n tk (e_up s j i v) := by
  obtain ⟨h1, h2, h3, t, h4, h5, h6, h7⟩ := h
  have row : ∀ b, b ≠ q → e_up f q i v b = f b := fun b hb => e_up_row hb
  refine ⟨⟨h1.1, ?_, h1.2.2⟩, w_eq.trans (t := e_up (m_s f) j i v) ⟨⟨?_, ?_⟩, fun b b1 b2 p hp => ?_⟩ (h2.up j i v), hw, t, h4, ?_, h6.of (row 81 (by omega)) (row 82 (by omega)), h7⟩
  · show e_up f q i v 76 0 = _
    rw [row 76 (by omega)]
    exact h1.2.1
  · rw [e_up_ne (Or.inl (by omega))]
    show e_up f q i v 76 4 = f 76 4
    rw [row 76 (by omega)]
  · rw [e_up_ne (Or.inl (by omega))]
    show e_up f q i v 76 10 = f 76 10
    rw [row 76 (by omega)]
  · match b, b1, b2 with
    | 1, _, _ => rw [e_up_ne (Or.inl (by omega))]; show e_up f q i v 79 _ = f 79 _; rw [row 79 (by omega)]
    | 2, _, _ => rw [e_up_ne (Or.inl (by omega))]; show e_up f q i v 79 _ = f 79 _; rw [row 79 (by omega)]
    | 3, _, _ => rw [e_up_ne (Or.inl (by omega))]; show e_up f q i v 79 _ = f 79 _; rw [row 79 (by omega)]
    | 4, _, _ =>
      show e_up f q i v 77 p = _
      rcases hq with ⟨rfl, rfl⟩ | ⟨rfl, rfl⟩
      · rw [e_up_at, e_up_at]; rfl
      · rw [row 77 (by omega), e_up_ne (Or.inl (by omega))]; rfl
    | 5, _, _ =>
      show e_up f q i v 78 p = _
      rcases hq with ⟨rfl, rfl⟩ | ⟨rfl, rfl⟩
      · rw [row 78 (by omega), e_up_ne (Or.inl (by omega))]; rfl
      · rw [e_up_at, e_up_at]; rfl
    | 6, _, _ => rw [e_up_ne (Or.inl (by omega))]; show e_up f q i v 79 _ = f 79 _; rw [row 79 (by omega)]
  · rw [row 76 (by omega)]
    exact h5
/-- the word by which kinds (sort 0) or mores (sort 1) are tried -/
def c_kj (sort : Int32) : Nat := if sort = 0 then 4 else 5
def w_kindG (tk : Nat → Nat → List (Nat × Int32)) (n : Nat) (s : Nat → Nat → Int32) (p : Nat) (c : Nat → Int32) (z : Nat) (sort : Int32) (v : Nat) : Int32 := w_first tk n (e_up s (c_kj sort) p (nI v)) p c z
def c_kn (sort : Int32) : Nat := if sort = 0 then 6 else 10
theorem sq_kinds {f : Nat → Nat → Int32} {r : Nat → Nat → Option Nat} {n : Nat} {tk : Nat → Nat → List (Nat × Int32)} {s : Nat → Nat → Int32} (h : SQ f r 52 n tk s) (hw : w_wf n s) {p : Nat} (hp : p < n) {i z : Nat} (hi : i < 4) (hz : z ≤ 20) {so : Int32} (hs : SH f i so z) (sort : Int32) : ∃ f', L_X10_kinds_34 50000 SS 0 (nI i) (nI p) sort 0 0 (f, r) = some (w_set (w_kindG tk n s p (c_tell f i) z sort) (c_kn sort), (f', r)) ∧ KT f f' := by
  have hG : GG (f, r) := h.cs.1
  have h6 := h.le
  have hS : IsS 60 := Or.inr (Or.inl rfl)
  have r52 : ∀ f, e_gR SS (f, r) 10 0 2 = some 52 := fun f => (rf10 (g := (f, r)) hG).2.2.1
  have r60 : ∀ f, e_gR SS (f, r) 10 0 3 = some 60 := fun f => (rf10 (g := (f, r)) hG).2.2.2.1
  have r2 : ∀ f, e_gR SS (f, r) 10 0 1 = some 2 := fun f => (rf10 (g := (f, r)) hG).2.1
  have rs : ∀ f : Nat → Nat → Int32, e_aR SS (f, r) 4 2 (nI i) = some (37 + 2 * i) := fun f => rfShs (show GG (f, r) from hG) hi
  have r64 : ∀ f, e_gR SS (f, r) 7 60 3 = some 64 := fun f => (rfS (g := (f, r)) hG hS).2.2.2.1
  have r65 : ∀ f, e_gR SS (f, r) 7 60 4 = some 65 := fun f => (rfS (g := (f, r)) hG hS).2.2.2.2.1
  have s64 : ∀ (f : Nat → Nat → Int32) (v : Int32), e_aS SS (f, r) 0 64 (nI p) v = some (e_up f 64 p v, r) := fun f v => aS_ok (arS hS).2.2.2.1 (by omega) (by omega)
  have s65 : ∀ (f : Nat → Nat → Int32) (v : Int32), e_aS SS (f, r) 0 65 (nI p) v = some (e_up f 65 p v, r) := fun f v => aS_ok (arS hS).2.2.2.2.1 (by omega) (by omega)
  have kn : c_kn sort ≤ 10 := by unfold c_kn; split <;> omega
  have top : ∀ m b v (g : e_G), L_X10_kinds_34 (m + 1) SS 0 (nI i) (nI p) sort b v g = J_X10_kinds_47 (L_X10_kinds_34 m SS) SS 0 (nI i) (nI p) sort b v v (nI (c_kn sort)) g := by
    intro m b v g
    rw [L_X10_kinds_34]
    unfold c_kn
    split <;> rfl
  have key := loopY (L := fun m k (a : Int32 × (Nat → Nat → Int32)) => L_X10_kinds_34 m SS 0 (nI i) (nI p) sort a.1 k (a.2, r)) (n := c_kn sort) (F := w_setF (w_kindG tk n s p (c_tell f i) z sort))
    (I := fun _ t a => a.1 = t ∧ KT f a.2) (P := fun t q => ∃ f', q = (t, (f', r)) ∧ KT f f')
    (fun m t a hI => by
      refine ⟨(t, (a.2, r)), ?_, a.2, rfl, hI.2⟩
      show L_X10_kinds_34 (m + 1) SS 0 (nI i) (nI p) sort a.1 (nI (c_kn sort)) (a.2, r) = _
      rw [top]
      unfold J_X10_kinds_47
      rw [if_pos (nI_le (Nat.le_refl _) (by omega)), hI.1])
    (fun m j t a hj hI => by
      obtain ⟨rfl, i2⟩ := hI
      have h52 := h.kt (Or.inl rfl) i2
      obtain ⟨f1, b1, b2, b3⟩ := sq_think h52 hw
      have fin : ∀ f2 : Nat → Nat → Int32, KT f f2 → SQ f2 r 60 n tk (e_up s (c_kj sort) p (nI j)) → ∃ s' : Int32 × (Nat → Nat → Int32), J_X10_kinds_90 (L_X10_kinds_34 m SS) SS 0 (nI i) (nI p) sort a.1 (nI j) (f2, r) = L_X10_kinds_34 m SS 0 (nI i) (nI p) sort s'.1 (nI (j + 1)) (s'.2, r) ∧ s'.1 = w_setF (w_kindG tk n s p (c_tell f i) z sort) j a.1 ∧ KT f s'.2 := by
        intro f2 kt hq
        have hs1 := hs.kt hi kt
        obtain ⟨f3, c1, c2⟩ := sq_first hq hp hi hs1.2.2.1 (by omega) (c := c_tell f i) (fun k hk => by rw [hs1.2.2.2.2.2 k hk, kt 87 (by unfold NS; omega) (by omega)]; rfl)
        unfold J_X10_kinds_90 w_setF w_kindG
        rw [r2, Option.bind_some, rs, Option.bind_some, c1, Option.bind_some]
        by_cases q : w_first tk n (e_up s (c_kj sort) p (nI j)) p (c_tell f i) z = -1
        · rw [if_pos q, if_pos q]
          exact ⟨(a.1 ||| ((1 : Int32) <<< (nI j &&& 31)), f3), by rw [J_X10_kinds_114, nI_1], rfl, kt.trans c2⟩
        · rw [if_neg q, if_neg q]
          exact ⟨(a.1, f3), by rw [J_X10_kinds_114, nI_1], rfl, kt.trans c2⟩
      show ∃ s' : Int32 × (Nat → Nat → Int32), L_X10_kinds_34 (m + 1) SS 0 (nI i) (nI p) sort a.1 (nI j) (a.2, r) = L_X10_kinds_34 m SS 0 (nI i) (nI p) sort s'.1 (nI (j + 1)) (s'.2, r) ∧ _
      rw [top]
      unfold J_X10_kinds_47
      rw [if_neg (nI_ge hj (by omega)), r60, Option.bind_some, r52, Option.bind_some, b1, Option.bind_some]
      by_cases q : sort = 0
      · rw [if_pos q, r60, Option.bind_some, r64, Option.bind_some, s64, Option.bind_some]
        refine fin _ ((i2.trans b2).trans (KT.up (j := 4) (by omega))) ?_
        have e4 : c_kj sort = 4 := if_pos q
        have e6 : c_kn sort = 6 := if_pos q
        rw [e4]
        exact b3.upk p (by omega)
      · rw [if_neg q, r60, Option.bind_some, r65, Option.bind_some, s65, Option.bind_some]
        refine fin _ ((i2.trans b2).trans (KT.up (j := 5) (by omega))) ?_
        have e4 : c_kj sort = 5 := if_neg q
        rw [e4]
        exact b3.up (j := 5) (by omega) p _)
    (c_kn sort) 0 50000 0 (0, f) (by omega) (by omega) ⟨rfl, KT.rfl'⟩
  have h0 : nI 0 = (0 : Int32) := nI_0
  rw [h0] at key
  obtain ⟨q, k1, f', k2, k3⟩ := key
  exact ⟨f', k1.trans (by rw [k2]; rfl), k3⟩
theorem mw_kinds {f : Nat → Nat → Int32} {r : Nat → Nat → Option Nat} {n : Nat} {tk : Nat → Nat → List (Nat × Int32)} {s : Nat → Nat → Int32} (h : MW f r n tk s) {p : Nat} (hp : p < n) {i z : Nat} (hi : i < 4) (hz : z ≤ 20) {so : Int32} (hs : SH f i so z) {sort : Int32} (h01 : sort = 0 ∨ sort = 1) : ∃ f', L_X11_kinds_50 50000 SS 76 (nI i) (nI p) sort (s 4 p) (s 5 p) 0 0 (f, r) = some (w_set (w_kindG tk n s p (c_tell f i) z sort) (c_kn sort), (f', r)) ∧ KM f f' := by
  have hG : GG (f, r) := h.1.1
  have h6 := h.1.2.2
  have hp6 := h.lt hp
  have r77 : ∀ f, e_gR SS (f, r) 11 76 1 = some 77 := fun f => (rf11 (g := (f, r)) hG).1
  have r78 : ∀ f, e_gR SS (f, r) 11 76 2 = some 78 := fun f => (rf11 (g := (f, r)) hG).2.1
  have s77 : ∀ (f : Nat → Nat → Int32) (v : Int32), e_aS SS (f, r) 0 77 (nI p) v = some (e_up f 77 p v, r) := fun f v => aS_ok arM.1 hp6 (by omega)
  have s78 : ∀ (f : Nat → Nat → Int32) (v : Int32), e_aS SS (f, r) 0 78 (nI p) v = some (e_up f 78 p v, r) := fun f v => aS_ok arM.2.1 hp6 (by omega)
  have kn : c_kn sort ≤ 10 := by unfold c_kn; split <;> omega
  have w4 : f 77 p = s 4 p := h.row (j := 4) (by omega) (by omega) p hp
  have w5 : f 78 p = s 5 p := h.row (j := 5) (by omega) (by omega) p hp
  have top : ∀ m b v (g : e_G), L_X11_kinds_50 (m + 1) SS 76 (nI i) (nI p) sort (s 4 p) (s 5 p) b v g = J_X11_kinds_63 (L_X11_kinds_50 m SS) SS 76 (nI i) (nI p) sort (s 4 p) (s 5 p) b v v (nI (c_kn sort)) g := by
    intro m b v g
    rw [L_X11_kinds_50]
    unfold c_kn
    split <;> rfl
  have key := loopY (L := fun m k (a : Int32 × (Nat → Nat → Int32)) => L_X11_kinds_50 m SS 76 (nI i) (nI p) sort (s 4 p) (s 5 p) a.1 k (a.2, r)) (n := c_kn sort) (F := w_setF (w_kindG tk n s p (c_tell f i) z sort))
    (I := fun _ t a => a.1 = t ∧ KM f (e_up (e_up a.2 77 p (s 4 p)) 78 p (s 5 p)) ∧ ∃ x, MW a.2 r n tk (e_up s (c_kj sort) p (nI x))) (P := fun t q => ∃ f', q = (t, (f', r)) ∧ KM f f')
    (fun m t a hI => by
      refine ⟨(t, (e_up (e_up a.2 77 p (s 4 p)) 78 p (s 5 p), r)), ?_, _, rfl, hI.2.1⟩
      show L_X11_kinds_50 (m + 1) SS 76 (nI i) (nI p) sort (s 4 p) (s 5 p) a.1 (nI (c_kn sort)) (a.2, r) = _
      rw [top]
      unfold J_X11_kinds_63
      rw [if_pos (nI_le (Nat.le_refl _) (by omega)), r77, Option.bind_some, s77, Option.bind_some, r78, Option.bind_some, s78, Option.bind_some, hI.1])
    (fun m j t a hj hI => by
      obtain ⟨rfl, i2, x, i3⟩ := hI
      have fin : ∀ f2 : Nat → Nat → Int32, KM f (e_up (e_up f2 77 p (s 4 p)) 78 p (s 5 p)) → MW f2 r n tk (e_up s (c_kj sort) p (nI j)) → ∃ s' : Int32 × (Nat → Nat → Int32), (f_X11_unlike SS 76 (nI i) (nI p) (f2, r)).bind (fun q4 => if q4.1 = (-1 : Int32) then J_X11_kinds_121 (L_X11_kinds_50 m SS) SS 76 (nI i) (nI p) sort (s 4 p) (s 5 p) (nI j) a.1 ((1 : Int32) <<< (nI j &&& 31)) q4.2 else J_X11_kinds_121 (L_X11_kinds_50 m SS) SS 76 (nI i) (nI p) sort (s 4 p) (s 5 p) (nI j) a.1 (0 : Int32) q4.2) = L_X11_kinds_50 m SS 76 (nI i) (nI p) sort (s 4 p) (s 5 p) s'.1 (nI (j + 1)) (s'.2, r) ∧ s'.1 = w_setF (w_kindG tk n s p (c_tell f i) z sort) j a.1 ∧ KM f (e_up (e_up s'.2 77 p (s 4 p)) 78 p (s 5 p)) ∧ ∃ x, MW s'.2 r n tk (e_up s (c_kj sort) p (nI x)) := by
        intro f2 km hq
        have e86 : f2 86 = f 86 := by
          have := km.1 86 (by omega) (by omega) (by omega)
          rw [e_up_row (by omega), e_up_row (by omega)] at this
          exact this
        have e87 : f2 87 = f 87 := by
          have := km.1 87 (by omega) (by omega) (by omega)
          rw [e_up_row (by omega), e_up_row (by omega)] at this
          exact this
        obtain ⟨f3, c1, c2⟩ := mw_first hq hp hi (z := z) (by rw [e86]; exact hs.2.2.2.1) (by omega) (c := c_tell f i) (fun k hk => by rw [e87]; rfl)
        have km3 : KM f (e_up (e_up f3 77 p (s 4 p)) 78 p (s 5 p)) := by
          refine km.trans ⟨fun b h1 h2 h3 => ?_, fun k hk => by rw [e_up_row (by omega), e_up_row (by omega), e_up_row (by omega), e_up_row (by omega)]; exact c2.2.1 k hk, fun k hk => by rw [e_up_row (by omega), e_up_row (by omega), e_up_row (by omega), e_up_row (by omega)]; exact c2.2.2 k hk⟩
          funext k
          unfold e_up
          rw [c2.1 b h1 h2 h3]
        unfold w_setF w_kindG
        rw [c1, Option.bind_some]
        by_cases q : w_first tk n (e_up s (c_kj sort) p (nI j)) p (c_tell f i) z = -1
        · rw [if_pos q, if_pos q]
          exact ⟨(a.1 ||| ((1 : Int32) <<< (nI j &&& 31)), f3), by rw [J_X11_kinds_121, nI_1], rfl, km3, j, hq.km c2⟩
        · rw [if_neg q, if_neg q]
          exact ⟨(a.1, f3), by rw [J_X11_kinds_121, nI_1, or_0], rfl, km3, j, hq.km c2⟩
      show ∃ s' : Int32 × (Nat → Nat → Int32), L_X11_kinds_50 (m + 1) SS 76 (nI i) (nI p) sort (s 4 p) (s 5 p) a.1 (nI j) (a.2, r) = L_X11_kinds_50 m SS 76 (nI i) (nI p) sort (s 4 p) (s 5 p) s'.1 (nI (j + 1)) (s'.2, r) ∧ _
      rw [top]
      unfold J_X11_kinds_63 J_X11_kinds_82 J_X11_kinds_100
      rw [if_neg (nI_ge hj (by omega)), r77, Option.bind_some]
      rcases h01 with q | q
      · have q1 : ¬ sort = 1 := by rw [q]; decide
        have e4 : c_kj sort = 4 := if_pos q
        have e6 : c_kn sort = 6 := if_pos q
        have a5 : a.2 78 p = s 5 p := by
          have : a.2 78 p = e_up s (c_kj sort) p (nI x) 5 p := i3.row (j := 5) (by omega) (by omega) p hp
          rw [this, e4, e_up_ne (Or.inl (by omega))]
        rw [if_pos q, s77, Option.bind_some, r78, Option.bind_some, if_neg q1, s78, Option.bind_some]
        have e5 : e_up (e_up a.2 77 p (nI j)) 78 p (s 5 p) = e_up a.2 77 p (nI j) := by
          have : e_up a.2 77 p (nI j) 78 p = s 5 p := by rw [e_up_row (by omega)]; exact a5
          rw [← this, e_up_id]
        rw [e5]
        refine fin _ (by rw [e_up_up]; exact i2) ?_
        have i4 := i3.up7 (q := 77) (j := 4) (by omega) p (nI j) (by rw [e4, e_up_up]; exact h.2.2.1.upk p (by omega))
        rw [e4, e_up_up] at i4
        rw [e4]
        exact i4
      · have q0 : ¬ sort = 0 := by rw [q]; decide
        have e4 : c_kj sort = 5 := if_neg q0
        have a4 : a.2 77 p = s 4 p := by
          have : a.2 77 p = e_up s (c_kj sort) p (nI x) 4 p := i3.row (j := 4) (by omega) (by omega) p hp
          rw [this, e4, e_up_ne (Or.inl (by omega))]
        have e5 : e_up a.2 77 p (s 4 p) = a.2 := by rw [← a4, e_up_id]
        rw [if_neg q0, s77, Option.bind_some, r78, Option.bind_some, if_pos q, e5, s78, Option.bind_some]
        refine fin _ ?_ ?_
        · have e7 : e_up (e_up (e_up a.2 78 p (nI j)) 77 p (s 4 p)) 78 p (s 5 p) = e_up (e_up a.2 77 p (s 4 p)) 78 p (s 5 p) := by
            funext b k
            unfold e_up
            by_cases y1 : b = 78 ∧ k = p
            · rw [if_pos y1, if_pos y1]
            · rw [if_neg y1, if_neg y1, if_neg y1]
          rw [e7]
          exact i2
        · have i4 := i3.up7 (q := 78) (j := 5) (by omega) p (nI j) (by rw [e4, e_up_up]; exact h.2.2.1.upm p (by omega))
          rw [e4, e_up_up] at i4
          rw [e4]
          exact i4)
    (c_kn sort) 0 50000 0 (0, f) (by omega) (by omega) ⟨rfl, by show KM f (e_up (e_up f 77 p (s 4 p)) 78 p (s 5 p)); rw [← w4, e_up_id, ← w5, e_up_id]; exact KM.rfl', by
      obtain ⟨k, hk, ek⟩ := (h.2.2.1.1 p hp).2.2.1
      obtain ⟨m, hm, em⟩ := (h.2.2.1.1 p hp).2.2.2.1
      rcases h01 with q | q
      · exact ⟨k, by rw [show c_kj sort = 4 from if_pos q, ← ek, e_up_id]; exact h⟩
      · exact ⟨m, by rw [show c_kj sort = 5 from if_neg (by rw [q]; decide), ← em, e_up_id]; exact h⟩⟩
  have h0 : nI 0 = (0 : Int32) := nI_0
  rw [h0] at key
  obtain ⟨q, k1, f', k2, k3⟩ := key
  exact ⟨f', k1.trans (by rw [k2]; rfl), k3⟩
theorem w_set_c {G G' : Nat → Int32} {n : Nat} (h : ∀ i, i < n → G i = G' i) : w_set G n = w_set G' n :=
  itF_congr (n := n) (fun i b hi => by unfold w_setF; rw [h i hi]) n 0 0 (by omega)
theorem w_first_c {tk : Nat → Nat → List (Nat × Int32)} {n : Nat} {s : Nat → Nat → Int32} {p z : Nat} {c c' : Nat → Int32} (h : ∀ k, k < z → c k = c' k) : w_first tk n s p c z = w_first tk n s p c' z :=
  itE_congr (n := z) (fun i t hi => by unfold w_firstF; rw [h i hi]) z 0 s (by omega)
theorem c_tell_kt {f f1 : Nat → Nat → Int32} (k : KT f f1) (i : Nat) : c_tell f1 i = c_tell f i := by
  funext j
  unfold c_tell
  rw [k 87 (by unfold NS; omega) (by omega)]
theorem ok_kinds : OK_kinds SS Inv_ := by
  intro g a1 a2 a3 hI
  obtain ⟨f, r⟩ := g
  obtain ⟨n, tc, tz, tk, s, h⟩ := hI
  have h : IN f r n tc tz tk s := h
  have hG : GG (f, r) := h.1.cs.1
  have hw := h.2.1.2.2.1
  rcases rf_or h a1 a2 with ⟨v, v0, e1, e2⟩ | ⟨i, z, so, p, hi, rfl, hz, hs, hp, rfl, e1, e2⟩
  · exact ask0 h v (by unfold f_X10_kinds; rw [if_pos ob10, e1, Option.bind_some, if_neg v0]) (by unfold f_X11_kinds; rw [if_pos ob11, e2 f KT.rfl', Option.bind_some, if_neg v0])
  · have x2 : ∀ f1, KT f f1 → IN f1 r n tc tz tk s → f_X11_kinds SS 76 (nI i) (nI p) a3 (f1, r) = if s_in a3 0 1 = 0 then some (-7, (f1, r)) else L_X11_kinds_50 50000 SS 76 (nI i) (nI p) a3 (s 4 p) (s 5 p) 0 0 (f1, r) := by
      intro f1 k h1
      have h11 := rf11 (show GG (f1, r) from hG)
      have w4 : f1 77 p = s 4 p := h1.2.1.row (j := 4) (by omega) (by omega) p hp
      have w5 : f1 78 p = s 5 p := h1.2.1.row (j := 5) (by omega) (by omega) p hp
      unfold f_X11_kinds
      rw [if_pos ob11, e2 f1 k, Option.bind_some, if_pos rfl, m_in, Option.bind_some, h11.1, Option.bind_some, aI_ok arM.1 (h.2.1.lt hp) (by omega), Option.bind_some, h11.2.1, Option.bind_some, aI_ok arM.2.1 (h.2.1.lt hp) (by omega), Option.bind_some, show (f1, r).1 77 p = s 4 p from w4, show (f1, r).1 78 p = s 5 p from w5]
    rcases arg3 a3 1 2 1 (by decide +kernel) (by decide +kernel) (by omega) with ⟨p1, p2⟩ | ⟨p1, p2, p3, p4, p5, p6⟩ | ⟨e, he, ee, p1, p2, p3, p4, p5, p6⟩
    · exact ask0 h (-7) (by unfold f_X10_kinds; rw [if_pos ob10, e1, Option.bind_some, if_pos rfl, if_pos p1]) (by rw [x2 f KT.rfl' h, p2, if_pos rfl])
    · exact ask0 h (-7) (by unfold f_X10_kinds; rw [if_pos ob10, e1, Option.bind_some, if_pos rfl, if_neg p1, if_neg p4]) (by rw [x2 f KT.rfl' h, p6, if_pos rfl])
    · have h01 : a3 = 0 ∨ a3 = 1 := by
        match e, he with
        | 0, _ => exact Or.inl ee
        | 1, _ => exact Or.inr ee
      refine ask2 h (w_set (w_kindG tk n s p (c_tell f i) z a3) (c_kn a3)) ?_ (fun f1 k h1 => ?_)
      · obtain ⟨f2, c1, c2⟩ := sq_kinds h.1 hw hp hi hz hs a3
        refine ⟨f2, ?_, c2⟩
        unfold f_X10_kinds
        rw [if_pos ob10, e1, Option.bind_some, if_pos rfl, if_neg p1, if_pos p4]
        exact c1
      · obtain ⟨f2, c1, c2⟩ := mw_kinds h1.2.1 hp hi hz (hs.kt hi k) h01
        refine ⟨f2, ?_, c2⟩
        rw [x2 f1 k h1, p6, if_neg (show ¬ (1 : Int32) = 0 by decide), c1, c_tell_kt k]
