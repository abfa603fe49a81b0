/-! the calls: safe, warn, and the sheets' refusals; judge, whose -/
theorem KM.back {a b : Nat → Nat → Int32} {q k : Nat} {w : Int32} (h : KM (e_up a q k w) b) : KM a (e_up b q k (a q k)) := by
  refine ⟨fun c h1 h2 h3 => ?_, fun j hj => ?_, fun j hj => ?_⟩
  · funext j
    by_cases z : c = q ∧ j = k
    · rw [z.1, z.2, e_up_eq]
    · have z' : c ≠ q ∨ j ≠ k := by omega
      have := congrFun (h.1 c h1 h2 h3) j
      rw [e_up_ne z'] at this
      rw [e_up_ne z']
      exact this
  · by_cases z : 79 = q ∧ j = k
    · rw [z.1, z.2, e_up_eq]
    · have z' : 79 ≠ q ∨ j ≠ k := by omega
      have := h.2.1 j hj
      rw [e_up_ne z'] at this
      rw [e_up_ne z']
      exact this
  · by_cases z : 76 = q ∧ j = k
    · rw [z.1, z.2, e_up_eq]
    · have z' : 76 ≠ q ∨ j ≠ k := by omega
      have := h.2.2 j hj
      rw [e_up_ne z'] at this
      rw [e_up_ne z']
      exact this
def w_safeF (tk : Nat → Nat → List (Nat × Int32)) (n : Nat) (s : Nat → Nat → Int32) (p w : Nat) (a : Int32 × Int32) : Int32 × Int32 := if s_mayBe (s 1) n p (nI w) = 0 then a else if w_till tk n (e_up s 1 p (nI w)) p ≤ a.1 then a else (w_till tk n (e_up s 1 p (nI w)) p, nI w)
def w_safe (tk : Nat → Nat → List (Nat × Int32)) (n : Nat) (s : Nat → Nat → Int32) (p : Nat) : Int32 × Int32 := itF (w_safeF tk n s p) 20 0 (-1, -1)
theorem sq_safe {f : Nat → Nat → Int32} {r : Nat → Nat → Option Nat} {n : Nat} {tk : Nat → Nat → List (Nat × Int32)} {s : Nat → Nat → Int32} (h : SQ f r 52 n tk s) (hw : w_wf n s) {p : Nat} (hp : p < n) (l2 : Int32) : ∃ f', L_X10_safe_34 50000 SS 0 (nI p) l2 (-1) (-1) 0 (f, r) = some (if l2 = 0 then (w_safe tk n s p).2 else (w_safe tk n s p).1, (f', r)) ∧ KT f f' := by
  have hG : GG (f, r) := h.cs.1
  have h6 := h.le
  have hS : IsS 60 := Or.inr (Or.inl rfl)
  have r52 : ∀ f, e_gR SS (f, r) 10 0 2 = some 52 := fun f => (rf10 (g := (f, r)) hG).2.2.1
  have r60 : ∀ f, e_gR SS (f, r) 10 0 3 = some 60 := fun f => (rf10 (g := (f, r)) hG).2.2.2.1
  have r61 : ∀ f, e_gR SS (f, r) 7 60 0 = some 61 := fun f => (rfS (g := (f, r)) hG hS).1
  have s61 : ∀ (f : Nat → Nat → Int32) (v : Int32), e_aS SS (f, r) 0 61 (nI p) v = some (e_up f 61 p v, r) := fun f v => aS_ok (arS hS).1 (by omega) (by omega)
  have k20 : (20 : Int32) = nI 20 := by decide +kernel
  have key := loopY (L := fun m i (a : (Int32 × Int32) × (Nat → Nat → Int32)) => L_X10_safe_34 m SS 0 (nI p) l2 a.1.1 a.1.2 i (a.2, r)) (n := 20) (F := w_safeF tk n s p)
    (I := fun _ t a => a.1 = t ∧ KT f a.2) (P := fun t q => ∃ f', q = (if l2 = 0 then t.2 else t.1, (f', r)) ∧ KT f f')
    (fun m t a hI => by
      refine ⟨(if l2 = 0 then t.2 else t.1, (a.2, r)), ?_, a.2, rfl, hI.2⟩
      show L_X10_safe_34 (m + 1) SS 0 (nI p) l2 a.1.1 a.1.2 (nI 20) (a.2, r) = _
      rw [L_X10_safe_34, k20, if_pos (nI_le (Nat.le_refl 20) (by omega)), hI.1]
      split <;> rfl)
    (fun m i t a hi hI => by
      obtain ⟨rfl, i2⟩ := hI
      have h52 := h.kt (Or.inl rfl) i2
      show ∃ s' : (Int32 × Int32) × (Nat → Nat → Int32), L_X10_safe_34 (m + 1) SS 0 (nI p) l2 a.1.1 a.1.2 (nI i) (a.2, r) = L_X10_safe_34 m SS 0 (nI p) l2 s'.1.1 s'.1.2 (nI (i + 1)) (s'.2, r) ∧ _
      rw [L_X10_safe_34, k20, if_neg (nI_ge hi (by omega)), r52, Option.bind_some, sq_mayBe h52 hp, Option.bind_some]
      unfold w_safeF
      by_cases q : s_mayBe (s 1) n p (nI i) = 0
      · rw [if_pos q, if_pos q]
        exact ⟨a, by rw [J_X10_safe_99, nI_1], rfl, i2⟩
      · rw [if_neg q, if_neg q]
        obtain ⟨f1, b1, b2, b3⟩ := sq_think h52 hw
        have b4 := b3.up (j := 1) (by omega) p (nI i)
        obtain ⟨f2, c1, c2⟩ := sq_till b4 hp
        have kt : KT f f2 := (i2.trans b2).trans ((KT.up (j := 1) (by omega)).trans c2)
        rw [r60, Option.bind_some, r52, Option.bind_some, b1, Option.bind_some, r60, Option.bind_some, r61, Option.bind_some, s61, Option.bind_some, c1, Option.bind_some]
        by_cases q2 : w_till tk n (e_up s 1 p (nI i)) p ≤ a.1.1
        · rw [if_pos q2, if_pos q2]
          exact ⟨(a.1, f2), by rw [J_X10_safe_99, nI_1], rfl, kt⟩
        · rw [if_neg q2, if_neg q2]
          exact ⟨((w_till tk n (e_up s 1 p (nI i)) p, nI i), f2), by rw [J_X10_safe_99, nI_1], rfl, kt⟩)
    20 0 50000 (-1, -1) ((-1, -1), f) (by omega) (by omega) ⟨rfl, KT.rfl'⟩
  have h0 : nI 0 = (0 : Int32) := nI_0
  rw [h0] at key
  obtain ⟨q, k1, f', k2, k3⟩ := key
  exact ⟨f', k1.trans (by rw [k2]; rfl), k3⟩
theorem mw_safe {f : Nat → Nat → Int32} {r : Nat → Nat → Option Nat} {n : Nat} {tk : Nat → Nat → List (Nat × Int32)} {s : Nat → Nat → Int32} (h : MW f r n tk s) {p : Nat} (hp : p < n) (l2 : Int32) : ∃ f', L_X11_safe_41 50000 SS 76 (nI p) l2 (s 1 p) (-1) (-1) 0 (f, r) = some (if l2 = 0 then (w_safe tk n s p).2 else (w_safe tk n s p).1, (f', r)) ∧ KM f f' := by
  have hG : GG (f, r) := h.1.1
  have h6 := h.1.2.2
  have hp6 := h.lt hp
  have r79 : ∀ f, e_gR SS (f, r) 11 76 3 = some 79 := fun f => (rf11 (g := (f, r)) hG).2.2.1
  have k20 : (20 : Int32) = nI 20 := by decide +kernel
  have st : ∀ (f : Nat → Nat → Int32) v, e_aS SS (f, r) 0 79 ((4 : Int32) * nI p) v = some (e_up f 79 (4 * p + 0) v, r) := fun f v => m_stW hp6 v
  have key := loopY (L := fun m i (a : (Int32 × Int32) × (Nat → Nat → Int32)) => L_X11_safe_41 m SS 76 (nI p) l2 (s 1 p) a.1.2 a.1.1 i (a.2, r)) (n := 20) (F := w_safeF tk n s p)
    (I := fun _ t a => a.1 = t ∧ KM f a.2) (P := fun t q => ∃ f', q = (if l2 = 0 then t.2 else t.1, (f', r)) ∧ KM f f')
    (fun m t a hI => by
      refine ⟨(if l2 = 0 then t.2 else t.1, (a.2, r)), ?_, a.2, rfl, hI.2⟩
      show L_X11_safe_41 (m + 1) SS 76 (nI p) l2 (s 1 p) a.1.2 a.1.1 (nI 20) (a.2, r) = _
      rw [L_X11_safe_41, k20, if_pos (nI_le (Nat.le_refl 20) (by omega)), hI.1]
      split <;> rfl)
    (fun m i t a hi hI => by
      obtain ⟨rfl, i2⟩ := hI
      have h1 := h.km i2
      have was : a.2 79 (4 * p + 0) = s 1 p := h1.row (j := 1) (by omega) (by omega) p hp
      show ∃ s' : (Int32 × Int32) × (Nat → Nat → Int32), L_X11_safe_41 (m + 1) SS 76 (nI p) l2 (s 1 p) a.1.2 a.1.1 (nI i) (a.2, r) = L_X11_safe_41 m SS 76 (nI p) l2 (s 1 p) s'.1.2 s'.1.1 (nI (i + 1)) (s'.2, r) ∧ _
      rw [L_X11_safe_41, k20, if_neg (nI_ge hi (by omega)), mw_mayBe h1 hp, Option.bind_some]
      unfold w_safeF
      by_cases q : s_mayBe (s 1) n p (nI i) = 0
      · rw [if_pos q, if_pos q]
        exact ⟨a, by rw [J_X11_safe_135, nI_1], rfl, i2⟩
      · rw [if_neg q, if_neg q]
        have h2 := h1.up (c := 0) (j := 1) (by omega) p (nI i) (wf_mayBe h.2.2.1 h6 hp q)
        obtain ⟨f2, c1, c2⟩ := mw_till h2 hp
        have km : KM f (e_up f2 79 (4 * p + 0) (s 1 p)) := i2.trans (by rw [← was]; exact c2.back)
        have fin : ∀ x, x = w_till tk n (e_up s 1 p (nI i)) p → ∃ s' : (Int32 × Int32) × (Nat → Nat → Int32), J_X11_safe_101 (L_X11_safe_41 m SS) SS 76 (nI p) l2 (s 1 p) a.1.2 a.1.1 (nI i) x (e_up f2 79 (4 * p + 0) (s 1 p), r) = L_X11_safe_41 m SS 76 (nI p) l2 (s 1 p) s'.1.2 s'.1.1 (nI (i + 1)) (s'.2, r) ∧ s'.1 = (if w_till tk n (e_up s 1 p (nI i)) p ≤ a.1.1 then a.1 else (w_till tk n (e_up s 1 p (nI i)) p, nI i)) ∧ KM f s'.2 := by
          intro x ex
          subst ex
          unfold J_X11_safe_101 J_X11_safe_117 J_X11_safe_133 J_X11_safe_135
          by_cases q2 : w_till tk n (e_up s 1 p (nI i)) p ≤ a.1.1
          · rw [if_pos q2, if_pos q2, if_pos q2]
            exact ⟨(a.1, e_up f2 79 (4 * p + 0) (s 1 p)), by rw [nI_1], rfl, km⟩
          · rw [if_neg q2, if_neg q2, if_neg q2]
            exact ⟨((w_till tk n (e_up s 1 p (nI i)) p, nI i), e_up f2 79 (4 * p + 0) (s 1 p)), by rw [nI_1], rfl, km⟩
        rw [r79, Option.bind_some, st, Option.bind_some, c1, Option.bind_some, r79, Option.bind_some, st, Option.bind_some]
        rcases w_till_or tk n (e_up s 1 p (nI i)) p with ⟨q1, q2⟩ | ⟨j, hj, q1, q2⟩
        · rw [q2, if_pos rfl]
          exact fin 61 q1.symm
        · rw [q2, if_neg (nI_ne_m1 (by omega))]
          exact fin (nI j) q1.symm)
    20 0 50000 (-1, -1) ((-1, -1), f) (by omega) (by omega) ⟨rfl, KM.rfl'⟩
  have h0 : nI 0 = (0 : Int32) := nI_0
  rw [h0] at key
  obtain ⟨q, k1, f', k2, k3⟩ := key
  exact ⟨f', k1.trans (by rw [k2]; rfl), k3⟩
theorem ok_safe : OK_safe SS Inv_ := by
  intro g a1 a2 hI
  obtain ⟨f, r⟩ := g
  obtain ⟨n, tc, tz, tk, s, h⟩ := hI
  have h : IN f r n tc tz tk s := h
  have hG : GG (f, r) := h.1.cs.1
  have h10 := rf10 hG
  have hw := h.2.1.2.2.1
  rcases s_has_or h.1.le a1 with z | ⟨p, hp, rfl, z⟩
  · refine ask0 h (-5) ?_ ?_
    · unfold f_X10_safe
      rw [if_pos ob10]
      simp only [h10, Option.bind_some, sq_has h.1, z, if_true]
    · unfold f_X11_safe
      rw [if_pos ob11]
      simp only [mw_one h.2.1, Option.bind_some, z, if_true]
  · have s1 : f_X10_safe SS 0 (nI p) a2 (f, r) = if a2 < 0 then some (-7, (f, r)) else if a2 ≤ 1 then L_X10_safe_34 50000 SS 0 (nI p) a2 (-1) (-1) 0 (f, r) else some (-7, (f, r)) := by
      unfold f_X10_safe
      rw [if_pos ob10, h10.2.2.1, Option.bind_some, sq_has h.1, Option.bind_some, z, if_neg (show ¬ (1 : Int32) = 0 by decide)]
    have s2 : ∀ {f1}, IN f1 r n tc tz tk s → f_X11_safe SS 76 (nI p) a2 (f1, r) = if s_in a2 0 1 = 0 then some (-7, (f1, r)) else L_X11_safe_41 50000 SS 76 (nI p) a2 (s 1 p) (-1) (-1) 0 (f1, r) := by
      intro f1 h1
      have d1 : m_W (f1, r) p = s 1 p := h1.2.1.row (j := 1) (by omega) (by omega) p hp
      unfold f_X11_safe
      rw [if_pos ob11, mw_one h1.2.1, Option.bind_some, z, if_neg (show ¬ (1 : Int32) = 0 by decide), m_in, Option.bind_some, (rf11 (show GG (f1, r) from hG)).2.2.1, Option.bind_some, m_aW (f1, r) (h.2.1.lt hp), Option.bind_some, d1]
    rcases arg3 a2 1 2 1 (by decide +kernel) (by decide +kernel) (by omega) with ⟨q1, q2⟩ | ⟨q1, q2, q3, q4, q5, q6⟩ | ⟨d, hd, e, q1, q2, q3, q4, q5, q6⟩
    · exact ask0 h (-7) (by rw [s1, if_pos q1]) (by rw [s2 h, q2, if_pos rfl])
    · exact ask0 h (-7) (by rw [s1, if_neg q1, if_neg q4]) (by rw [s2 h, q6, if_pos rfl])
    · refine ask_ h (if a2 = 0 then (w_safe tk n s p).2 else (w_safe tk n s p).1) ?_ (fun f1 h1 => ?_)
      · rw [s1, if_neg q1, if_pos q4]
        exact sq_safe h.1 hw hp a2
      · rw [s2 h1, q6, if_neg (show ¬ (1 : Int32) = 0 by decide)]
        exact mw_safe h1.2.1 hp a2
/-! warn -/
def w_warnF (tk : Nat → Nat → List (Nat × Int32)) (n d : Nat) (s : Nat → Nat → Int32) (p : Nat) (a : Int32 × Int32) : Int32 × Int32 := if s 6 p = 0 then (if a.1 ≤ w_behind tk n d (e_up s 3 p 0) then a else (w_behind tk n d (e_up s 3 p 0), nI p)) else a
def w_warn (tk : Nat → Nat → List (Nat × Int32)) (n d : Nat) (s : Nat → Nat → Int32) : Int32 × Int32 := itF (w_warnF tk n d s) n 0 (w_behind tk n d s, -1)
theorem sq_warn {f : Nat → Nat → Int32} {r : Nat → Nat → Option Nat} {n : Nat} {tk : Nat → Nat → List (Nat × Int32)} {s : Nat → Nat → Int32} (h : SQ f r 52 n tk s) (hw : w_wf n s) {d : Nat} (hd : d ≤ 40) (l2 : Int32) : ∃ f', L_X10_warn_45 50000 SS 0 (nI d) l2 (w_behind tk n d s) (-1) 0 (f, r) = some (if l2 = 0 then (w_warn tk n d s).2 else (w_warn tk n d s).1, (f', r)) ∧ KT f f' := by
  have hG : GG (f, r) := h.cs.1
  have h6 := h.le
  have hS : IsS 60 := Or.inr (Or.inl rfl)
  have hS2 : IsS 52 := Or.inl rfl
  have b52 : e_ob SS 7 52 = true := obS hS2
  have r52 : ∀ f, e_gR SS (f, r) 10 0 2 = some 52 := fun f => (rf10 (g := (f, r)) hG).2.2.1
  have r60 : ∀ f, e_gR SS (f, r) 10 0 3 = some 60 := fun f => (rf10 (g := (f, r)) hG).2.2.2.1
  have r63 : ∀ f, e_gR SS (f, r) 7 60 2 = some 63 := fun f => (rfS (g := (f, r)) hG hS).2.2.1
  have r58 : ∀ f, e_gR SS (f, r) 7 52 5 = some 58 := fun f => (rfS (g := (f, r)) hG hS2).2.2.2.2.2.1
  have s63 : ∀ (f : Nat → Nat → Int32) {p : Nat} (v : Int32), p < 6 → e_aS SS (f, r) 0 63 (nI p) v = some (e_up f 63 p v, r) := fun f p v hp => aS_ok (arS hS).2.2.1 hp (by omega)
  have a58 : ∀ (f : Nat → Nat → Int32) {p : Nat}, p < 6 → e_aI SS (f, r) 1 58 (nI p) = some (f 58 p) := fun f p hp => aI_ok (arS hS2).2.2.2.2.2.1 hp (by omega)
  have key := loopY (L := fun m i (a : (Int32 × Int32) × (Nat → Nat → Int32)) => L_X10_warn_45 m SS 0 (nI d) l2 a.1.1 a.1.2 i (a.2, r)) (n := n) (F := w_warnF tk n d s)
    (I := fun _ t a => a.1 = t ∧ KT f a.2) (P := fun t q => ∃ f', q = (if l2 = 0 then t.2 else t.1, (f', r)) ∧ KT f f')
    (fun m t a hI => by
      have h52 := h.kt (Or.inl rfl) hI.2
      refine ⟨(if l2 = 0 then t.2 else t.1, (a.2, r)), ?_, a.2, rfl, hI.2⟩
      show L_X10_warn_45 (m + 1) SS 0 (nI d) l2 a.1.1 a.1.2 (nI n) (a.2, r) = _
      rw [L_X10_warn_45, r52, Option.bind_some, gI_ok b52, Option.bind_some, show (a.2, r).1 52 6 = nI n from h52.n, if_pos (nI_le (Nat.le_refl n) (by omega)), hI.1]
      split <;> rfl)
    (fun m i t a hi hI => by
      obtain ⟨rfl, i2⟩ := hI
      have hi6 : i < 6 := by omega
      have h52 := h.kt (Or.inl rfl) i2
      have c6 : a.2 58 i = s 6 i := h52.row (j := 6) (by omega) (by omega) i hi
      show ∃ s' : (Int32 × Int32) × (Nat → Nat → Int32), L_X10_warn_45 (m + 1) SS 0 (nI d) l2 a.1.1 a.1.2 (nI i) (a.2, r) = L_X10_warn_45 m SS 0 (nI d) l2 s'.1.1 s'.1.2 (nI (i + 1)) (s'.2, r) ∧ _
      rw [L_X10_warn_45, r52, Option.bind_some, gI_ok b52, Option.bind_some, show (a.2, r).1 52 6 = nI n from h52.n, if_neg (nI_ge hi (by omega)), Option.bind_some, r58, Option.bind_some, a58 _ hi6, Option.bind_some, c6]
      unfold w_warnF
      by_cases q : s 6 i = 0
      · rw [if_pos q, if_pos q]
        obtain ⟨f1, b1, b2, b3⟩ := sq_think h52 hw
        have b4 := b3.up (j := 3) (by omega) i 0
        obtain ⟨f2, c1, c2⟩ := sq_behind b4 (d := d) (by omega)
        have kt : KT f f2 := (i2.trans b2).trans ((KT.up (j := 3) (by omega)).trans c2)
        rw [r60, Option.bind_some, Option.bind_some, b1, Option.bind_some, r60, Option.bind_some, r63, Option.bind_some, s63 _ _ hi6, Option.bind_some, c1, Option.bind_some]
        by_cases q2 : a.1.1 ≤ w_behind tk n d (e_up s 3 i 0)
        · rw [if_pos q2, if_pos q2]
          exact ⟨(a.1, f2), by rw [J_X10_warn_115, nI_1], rfl, kt⟩
        · rw [if_neg q2, if_neg q2]
          exact ⟨((w_behind tk n d (e_up s 3 i 0), nI i), f2), by rw [J_X10_warn_115, nI_1], rfl, kt⟩
      · rw [if_neg q, if_neg q]
        exact ⟨a, by rw [J_X10_warn_115, nI_1], rfl, i2⟩)
    n 0 50000 (w_behind tk n d s, -1) ((w_behind tk n d s, -1), f) (by omega) (by omega) ⟨rfl, KT.rfl'⟩
  have h0 : nI 0 = (0 : Int32) := nI_0
  rw [h0] at key
  obtain ⟨q, k1, f', k2, k3⟩ := key
  exact ⟨f', k1.trans (by rw [k2]; rfl), k3⟩
theorem mw_warn {f : Nat → Nat → Int32} {r : Nat → Nat → Option Nat} {n : Nat} {tk : Nat → Nat → List (Nat × Int32)} {s : Nat → Nat → Int32} (h : MW f r n tk s) {d : Nat} (hd : d ≤ 40) (l2 : Int32) : ∃ f', L_X11_warn_34 50000 SS 76 (nI d) l2 (-1) (w_behind tk n d s) 0 (f, r) = some (if l2 = 0 then (w_warn tk n d s).2 else (w_warn tk n d s).1, (f', r)) ∧ KM f f' := by
  have hG : GG (f, r) := h.1.1
  have h6 := h.1.2.2
  have r79 : ∀ f, e_gR SS (f, r) 11 76 3 = some 79 := fun f => (rf11 (g := (f, r)) hG).2.2.1
  have key := loopY (L := fun m i (a : (Int32 × Int32) × (Nat → Nat → Int32)) => L_X11_warn_34 m SS 76 (nI d) l2 a.1.2 a.1.1 i (a.2, r)) (n := n) (F := w_warnF tk n d s)
    (I := fun _ t a => a.1 = t ∧ KM f a.2) (P := fun t q => ∃ f', q = (if l2 = 0 then t.2 else t.1, (f', r)) ∧ KM f f')
    (fun m t a hI => by
      have h1 := h.km hI.2
      refine ⟨(if l2 = 0 then t.2 else t.1, (a.2, r)), ?_, a.2, rfl, hI.2⟩
      show L_X11_warn_34 (m + 1) SS 76 (nI d) l2 a.1.2 a.1.1 (nI n) (a.2, r) = _
      rw [L_X11_warn_34, gI_ok ob11, Option.bind_some, show (a.2, r).1 76 0 = nI n from h1.1.2.1, if_pos (nI_le (Nat.le_refl n) (by omega)), hI.1]
      split <;> rfl)
    (fun m i t a hi hI => by
      obtain ⟨rfl, i2⟩ := hI
      have hi6 : i < 6 := by omega
      have h1 := h.km i2
      have was : a.2 79 (4 * i + 2) = s 3 i := h1.row (j := 3) (by omega) (by omega) i hi
      have d3 : m_N (a.2, r) i = s 3 i := was
      have d6 : m_K (a.2, r) i = s 6 i := h1.row (j := 6) (by omega) (by omega) i hi
      have st : ∀ (f : Nat → Nat → Int32) v, e_aS SS (f, r) 0 79 ((4 : Int32) * nI i + 2) v = some (e_up f 79 (4 * i + 2) v, r) := fun f v => m_st hi6 (c := 2) (by omega) (by decide +kernel) v
      show ∃ s' : (Int32 × Int32) × (Nat → Nat → Int32), L_X11_warn_34 (m + 1) SS 76 (nI d) l2 a.1.2 a.1.1 (nI i) (a.2, r) = L_X11_warn_34 m SS 76 (nI d) l2 s'.1.2 s'.1.1 (nI (i + 1)) (s'.2, r) ∧ _
      rw [L_X11_warn_34, gI_ok ob11, Option.bind_some, show (a.2, r).1 76 0 = nI n from h1.1.2.1, if_neg (nI_ge hi (by omega)), r79, Option.bind_some, m_aK (a.2, r) hi6, Option.bind_some, d6]
      unfold w_warnF
      by_cases q : s 6 i = 0
      · rw [if_pos q, if_pos q]
        have h2 := h1.up (c := 2) (j := 3) (by omega) i 0 (h.2.2.1.up3 i (l := 0) (by omega))
        obtain ⟨f2, c1, c2⟩ := mw_behind h2 (d := d) (by omega)
        have km : KM f (e_up f2 79 (4 * i + 2) (s 3 i)) := i2.trans (by rw [← was]; exact c2.back)
        rw [Option.bind_some, m_aN (a.2, r) hi6, Option.bind_some, d3, Option.bind_some, st, Option.bind_some, c1, Option.bind_some, r79, Option.bind_some, st, Option.bind_some]
        unfold J_X11_warn_115 J_X11_warn_130 J_X11_warn_132
        by_cases q2 : a.1.1 ≤ w_behind tk n d (e_up s 3 i 0)
        · rw [if_pos q2, if_pos q2, if_pos q2]
          exact ⟨(a.1, e_up f2 79 (4 * i + 2) (s 3 i)), by rw [nI_1], rfl, km⟩
        · rw [if_neg q2, if_neg q2, if_neg q2]
          exact ⟨((w_behind tk n d (e_up s 3 i 0), nI i), e_up f2 79 (4 * i + 2) (s 3 i)), by rw [nI_1], rfl, km⟩
      · rw [if_neg q, if_neg q]
        exact ⟨a, by rw [J_X11_warn_132, nI_1], rfl, i2⟩)
    n 0 50000 (w_behind tk n d s, -1) ((w_behind tk n d s, -1), f) (by omega) (by omega) ⟨rfl, KM.rfl'⟩
  have h0 : nI 0 = (0 : Int32) := nI_0
  rw [h0] at key
  obtain ⟨q, k1, f', k2, k3⟩ := key
  exact ⟨f', k1.trans (by rw [k2]; rfl), k3⟩
theorem ok_warn : OK_warn SS Inv_ := by
  intro g a1 a2 hI
  obtain ⟨f, r⟩ := g
  obtain ⟨n, tc, tz, tk, s, h⟩ := hI
  have h : IN f r n tc tz tk s := h
  have hG : GG (f, r) := h.1.cs.1
  have h10 := rf10 hG
  have hw := h.2.1.2.2.1
  rcases arg3 a1 40 41 40 (by decide +kernel) (by decide +kernel) (by omega) with ⟨q1, q2⟩ | ⟨q1, q2, q3, q4, q5, q6⟩ | ⟨d, hd, rfl, q1, q2, q3, q4, q5, q6⟩
  · exact ask0 h (-2) (by unfold f_X10_warn; rw [if_pos ob10, if_pos q1]) (by unfold f_X11_warn; rw [if_pos ob11, m_in, Option.bind_some, q2]; rfl)
  · exact ask0 h (-2) (by unfold f_X10_warn; rw [if_pos ob10, if_neg q1, if_pos q2]) (by unfold f_X11_warn; rw [if_pos ob11, m_in, Option.bind_some, q6]; rfl)
  · have x1 : ∀ f1 : Nat → Nat → Int32, f_X11_warn SS 76 (nI d) a2 (f1, r) = if s_in a2 0 1 = 0 then some (-2, (f1, r)) else (f_X11_keptBehind SS 76 (nI d) (f1, r)).bind fun q6 => L_X11_warn_34 50000 SS 76 (nI d) a2 (-1) q6.1 0 q6.2 := by
      intro f1
      unfold f_X11_warn
      rw [if_pos ob11, m_in, Option.bind_some, q6, if_neg (show ¬ (1 : Int32) = 0 by decide), m_in, Option.bind_some]
    rcases arg3 a2 1 2 1 (by decide +kernel) (by decide +kernel) (by omega) with ⟨p1, p2⟩ | ⟨p1, p2, p3, p4, p5, p6⟩ | ⟨e, he, ee, p1, p2, p3, p4, p5, p6⟩
    · exact ask0 h (-2) (by unfold f_X10_warn; rw [if_pos ob10, if_neg q1, if_neg q2, if_pos p1]) (by rw [x1, p2, if_pos rfl])
    · exact ask0 h (-2) (by unfold f_X10_warn; rw [if_pos ob10, if_neg q1, if_neg q2, if_neg p1, if_neg p4]) (by rw [x1, p6, if_pos rfl])
    · refine ask_ h (if a2 = 0 then (w_warn tk n d s).2 else (w_warn tk n d s).1) ?_ (fun f1 h1 => ?_)
      · obtain ⟨f1, b1, b2, b3⟩ := sq_think h.1 hw
        obtain ⟨f2, c1, c2⟩ := sq_behind b3 (d := d) (by omega)
        obtain ⟨f3, d1, d2⟩ := sq_warn (h.1.kt (Or.inl rfl) (b2.trans c2)) hw hd a2
        refine ⟨f3, ?_, (b2.trans c2).trans d2⟩
        unfold f_X10_warn
        rw [if_pos ob10, if_neg q1, if_neg q2, if_neg p1, if_pos p4, h10.2.2.2.1, Option.bind_some, h10.2.2.1, Option.bind_some, b1, Option.bind_some, c1, Option.bind_some]
        exact d1
      · obtain ⟨f2, c1, c2⟩ := mw_behind h1.2.1 (d := d) (by omega)
        obtain ⟨f3, d1, d2⟩ := mw_warn (h1.2.1.km c2) hd a2
        refine ⟨f3, ?_, c2.trans d2⟩
        rw [x1, p6, if_neg (show ¬ (1 : Int32) = 0 by decide), c1, Option.bind_some]
        exact d1
