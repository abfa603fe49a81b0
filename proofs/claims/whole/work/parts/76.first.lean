/-! the first number of a sheet that is otherwise -/
def w_firstF (tk : Nat → Nat → List (Nat × Int32)) (n p : Nat) (c : Nat → Int32) (i : Nat) (t : Nat → Nat → Int32) : Sum Int32 (Nat → Nat → Int32) := if (w_day tk n t).2 3 p = c i then .inr (w_day tk n t).2 else .inl (nI i)
def w_first (tk : Nat → Nat → List (Nat × Int32)) (n : Nat) (s : Nat → Nat → Int32) (p : Nat) (c : Nat → Int32) (z : Nat) : Int32 := itE (w_firstF tk n p c) (fun _ => -1) z 0 s
/-- a sheet, of the class and of the reference -/
def SH (f : Nat → Nat → Int32) (i : Nat) (so : Int32) (z : Nat) : Prop := f (37 + 2 * i) 1 = so ∧ f 85 i = so ∧ f (37 + 2 * i) 2 = nI z ∧ f 86 i = nI z ∧ z ≤ 40 ∧ ∀ k, k < z → f (38 + 2 * i) k = f 87 (40 * i + k)
theorem sh_get {f : Nat → Nat → Int32} {r : Nat → Nat → Option Nat} (hG : GG (f, r)) {i : Nat} (hi : i < 4) {z k : Nat} (hz : f (37 + 2 * i) 2 = nI z) (h40 : z ≤ 40) (hk : k < z) : f_X6_get SS (37 + 2 * i) (nI k) (f, r) = some (f (38 + 2 * i) k, (f, r)) := by
  unfold f_X6_get f_X6_has
  rw [if_pos (obSh i hi), if_pos (obSh i hi), if_neg (nI_pos (by omega))]
  simp only [gI_ok (obSh i hi), Option.bind_some, hz]
  rw [if_neg (nI_ge hk (by omega))]
  simp only [Option.bind_some]
  rw [if_neg (by decide)]
  simp only [rfSh hG i hi, Option.bind_some, aI_ok (arSh i hi) (show k < 40 by omega) (by omega : 40 < 2 ^ 31)]
theorem sq_first {f : Nat → Nat → Int32} {r : Nat → Nat → Option Nat} {n : Nat} {tk : Nat → Nat → List (Nat × Int32)} {s : Nat → Nat → Int32} (h : SQ f r 60 n tk s) {p : Nat} (hp : p < n) {i : Nat} (hi : i < 4) {z : Nat} (hz : f (37 + 2 * i) 2 = nI z) (h40 : z ≤ 40) {c : Nat → Int32} (hc : ∀ k, k < z → f (38 + 2 * i) k = c k) : ∃ f', f_X10_firstOtherwise SS 0 (37 + 2 * i) (nI p) (f, r) = some (w_first tk n s p c z, (f', r)) ∧ KT f f' := by
  have hG : GG (f, r) := h.cs.1
  have h6 := h.le
  have hS : IsS 60 := Or.inr (Or.inl rfl)
  have r60 : ∀ f, e_gR SS (f, r) 10 0 3 = some 60 := fun f => (rf10 (g := (f, r)) hG).2.2.2.1
  have r63 : ∀ f, e_gR SS (f, r) 7 60 2 = some 63 := fun f => (rfS (g := (f, r)) hG hS).2.2.1
  have a63 : ∀ f : Nat → Nat → Int32, e_aI SS (f, r) 0 63 (nI p) = some (f 63 p) := fun f => aI_ok (arS hS).2.2.1 (by omega) (by omega)
  unfold f_X10_firstOtherwise
  rw [if_pos ob10]
  have key := loopX (L := fun m k (a : Nat → Nat → Int32) => L_X10_firstOtherwise_2 m SS 0 (37 + 2 * i) (nI p) k (a, r)) (n := z) (F := w_firstF tk n p c) (fin := fun _ => (-1 : Int32))
    (I := fun _ t a => KT f a ∧ SQ a r 60 n tk t) (P := fun v q => ∃ f', q = (v, (f', r)) ∧ KT f f')
    (fun m t a hI => by
      refine ⟨((-1 : Int32), (a, r)), ?_, a, rfl, hI.1⟩
      have e2 : a (37 + 2 * i) 2 = nI z := by rw [hI.1 _ (by unfold NS; omega) (by omega)]; exact hz
      show L_X10_firstOtherwise_2 (m + 1) SS 0 (37 + 2 * i) (nI p) (nI z) (a, r) = _
      rw [L_X10_firstOtherwise_2]
      simp only [gI_ok (obSh i hi), Option.bind_some, e2]
      rw [if_pos (nI_le (Nat.le_refl z) (by omega))])
    (fun m k t a _ hk hI => by
      obtain ⟨f', b1, b2, b3⟩ := sq_day hI.2
      have kt : KT f f' := hI.1.trans (KT.kp b2)
      have e2 : a (37 + 2 * i) 2 = nI z := by rw [hI.1 _ (by unfold NS; omega) (by omega)]; exact hz
      have e2' : f' (37 + 2 * i) 2 = nI z := by rw [kt _ (by unfold NS; omega) (by omega)]; exact hz
      have ec : f' (38 + 2 * i) k = c k := by rw [kt _ (by unfold NS; omega) (by omega)]; exact hc k hk
      have e3 : f' 63 p = (w_day tk n t).2 3 p := b3.row (j := 3) (by omega) (by omega) p hp
      have st : L_X10_firstOtherwise_2 (m + 1) SS 0 (37 + 2 * i) (nI p) (nI k) (a, r) = if (w_day tk n t).2 3 p = c k then L_X10_firstOtherwise_2 m SS 0 (37 + 2 * i) (nI p) (nI (k + 1)) (f', r) else some (nI k, (f', r)) := by
        rw [L_X10_firstOtherwise_2]
        simp only [gI_ok (obSh i hi), Option.bind_some, e2]
        rw [if_neg (nI_ge hk (by omega))]
        simp only [r60, Option.bind_some, b1, r63, a63, sh_get (show GG (f', r) from hG) hi e2' h40 hk, e3, ec, nI_1]
      by_cases y : (w_day tk n t).2 3 p = c k
      · refine Or.inr ⟨(w_day tk n t).2, f', by unfold w_firstF; rw [if_pos y], ?_, kt, b3⟩
        show L_X10_firstOtherwise_2 (m + 1) SS 0 (37 + 2 * i) (nI p) (nI k) (a, r) = _
        rw [st, if_pos y]
      · refine Or.inl ⟨nI k, (nI k, (f', r)), by unfold w_firstF; rw [if_neg y], ?_, f', rfl, kt⟩
        show L_X10_firstOtherwise_2 (m + 1) SS 0 (37 + 2 * i) (nI p) (nI k) (a, r) = _
        rw [st, if_neg y])
    z 0 50000 s f (by omega) (by omega) ⟨KT.rfl', h⟩
  have h0 : nI 0 = (0 : Int32) := nI_0
  rw [h0] at key
  obtain ⟨q, k1, f', k2, k3⟩ := key
  exact ⟨f', k1.trans (by rw [k2]; rfl), k3⟩
theorem nI_40j (i k : Nat) : (40 : Int32) * nI i + nI k = nI (40 * i + k) := by
  have e : (40 : Int32) = nI 40 := by decide +kernel
  rw [e, show nI 40 * nI i = nI (40 * i) from (Int32.ofNat_mul 40 i).symm, nI_add]
theorem mw_first {f : Nat → Nat → Int32} {r : Nat → Nat → Option Nat} {n : Nat} {tk : Nat → Nat → List (Nat × Int32)} {s : Nat → Nat → Int32} (h : MW f r n tk s) {p : Nat} (hp : p < n) {i : Nat} (hi : i < 4) {z : Nat} (hz : f 86 i = nI z) (h40 : z ≤ 40) {c : Nat → Int32} (hc : ∀ k, k < z → f 87 (40 * i + k) = c k) : ∃ f', f_X11_unlike SS 76 (nI i) (nI p) (f, r) = some (w_first tk n s p c z, (f', r)) ∧ KM f f' := by
  have hG : GG (f, r) := h.1.1
  have h6 := h.1.2.2
  have hp6 := h.lt hp
  have r79 : ∀ f, e_gR SS (f, r) 11 76 3 = some 79 := fun f => (rf11 (g := (f, r)) hG).2.2.1
  have r86 : ∀ f, e_gR SS (f, r) 11 76 15 = some 86 := fun f => (rf11 (g := (f, r)) hG).2.2.2.2.2.2.2.2.2.1
  have r87 : ∀ f, e_gR SS (f, r) 11 76 16 = some 87 := fun f => (rf11 (g := (f, r)) hG).2.2.2.2.2.2.2.2.2.2.1
  have aN : ∀ (f : Nat → Nat → Int32), e_aI SS (f, r) 0 79 ((4 : Int32) * nI p + 2) = some (f 79 (4 * p + 2)) := fun f => m_aN (f, r) hp6
  have A86 : ArA 0 86 4 := by unfold ArA; decide +kernel
  have A87 : ArA 0 87 160 := by unfold ArA; decide +kernel
  have a86 : ∀ (f : Nat → Nat → Int32), e_aI SS (f, r) 0 86 (nI i) = some (f 86 i) := fun f => aI_ok A86 hi (by omega)
  have a87 : ∀ (f : Nat → Nat → Int32) {k : Nat}, k < 40 → e_aI SS (f, r) 0 87 ((40 : Int32) * nI i + nI k) = some (f 87 (40 * i + k)) := fun f k hk => by rw [nI_40j]; exact aI_ok A87 (by omega) (by omega)
  obtain ⟨f1, c1, c2, c3, c4⟩ := m_keep hG
  have h1 : MW f1 r n tk s := h.of (by rw [c2 76 (by omega)]) (by rw [c2 76 (by omega)]) (by rw [c2 76 (by omega)]) (c2 77 (by omega)) (c2 78 (by omega)) (fun k _ => by rw [c2 79 (by omega)]) (c2 81 (by omega)) (c2 82 (by omega))
  have fin : ∀ a (v : Int32), KQ f1 a → ∃ f', (f_X11_lays SS 76 (a, r)).bind (fun q2 => some (v, q2)) = some (v, (f', r)) ∧ KM f f' := by
    intro a v hq
    obtain ⟨f', d1, d2, d3, d4, d5⟩ := m_lay (f := a) (r := r) hG
    exact ⟨f', by rw [d1]; rfl, KM.laid c2 c3 c4 hq d2 d3 d4 d5⟩
  have q86 : ∀ a, KQ f1 a → a 86 i = nI z := fun a hq => by rw [hq.1 86 (by omega) (by omega) (by omega) (by omega), c2 86 (by omega)]; exact hz
  have q87 : ∀ a k, KQ f1 a → k < z → a 87 (40 * i + k) = c k := fun a k hq hk => by rw [hq.1 87 (by omega) (by omega) (by omega) (by omega), c2 87 (by omega)]; exact hc k hk
  unfold f_X11_unlike
  rw [if_pos ob11, c1]
  have key := loopX (L := fun m k (a : Nat → Nat → Int32) => L_X11_unlike_9 m SS 76 (nI i) (nI p) (-1) k (a, r)) (n := z) (F := w_firstF tk n p c) (fin := fun _ => (-1 : Int32))
    (I := fun _ t a => KQ f1 a ∧ MW a r n tk t) (P := fun v q => ∃ f', q = (v, (f', r)) ∧ KM f f')
    (fun m t a hI => by
      obtain ⟨f', d1, d2⟩ := fin a (-1) hI.1
      refine ⟨((-1 : Int32), (f', r)), ?_, f', rfl, d2⟩
      show L_X11_unlike_9 (m + 1) SS 76 (nI i) (nI p) (-1) (nI z) (a, r) = _
      rw [L_X11_unlike_9]
      simp only [r86, a86, Option.bind_some, q86 a hI.1]
      rw [if_pos (nI_le (Nat.le_refl z) (by omega)), J_X11_unlike_68]
      exact d1)
    (fun m k t a hm hk hI => by
      obtain ⟨f', b1, b2, b3⟩ := m_day hI.2
      have kq : KQ f1 f' := hI.1.trans b2
      have e3 : f' 79 (4 * p + 2) = (w_day tk n t).2 3 p := b3.row (j := 3) (by omega) (by omega) p hp
      have st : L_X11_unlike_9 (m + 1) SS 76 (nI i) (nI p) (-1) (nI k) (a, r) = if c k = (w_day tk n t).2 3 p then L_X11_unlike_9 m SS 76 (nI i) (nI p) (-1) (nI (k + 1)) (f', r) else L_X11_unlike_9 m SS 76 (nI i) (nI p) (nI k) (nI (k + 1)) (f', r) := by
        rw [L_X11_unlike_9]
        simp only [r86, a86, Option.bind_some, q86 a hI.1]
        rw [if_neg (nI_ge hk (by omega)), if_pos trivial]
        simp only [b1, Option.bind_some, r87, r79, aN, a87 _ (show k < 40 by omega), q87 f' k kq hk, e3, J_X11_unlike_61, nI_1]
      by_cases y : (w_day tk n t).2 3 p = c k
      · refine Or.inr ⟨(w_day tk n t).2, f', by unfold w_firstF; rw [if_pos y], ?_, kq, b3⟩
        show L_X11_unlike_9 (m + 1) SS 76 (nI i) (nI p) (-1) (nI k) (a, r) = _
        rw [st, if_pos y.symm]
      · obtain ⟨f2, d1, d2⟩ := fin f' (nI k) kq
        refine Or.inl ⟨nI k, (nI k, (f2, r)), by unfold w_firstF; rw [if_neg y], ?_, f2, rfl, d2⟩
        show L_X11_unlike_9 (m + 1) SS 76 (nI i) (nI p) (-1) (nI k) (a, r) = _
        rw [st, if_neg (fun z => y z.symm)]
        obtain ⟨m, rfl⟩ : ∃ q, m = q + 1 := ⟨m - 1, by omega⟩
        rw [L_X11_unlike_9]
        simp only [r86, a86, Option.bind_some, q86 f' kq]
        rw [if_neg (nI_ne_m1 (show k < 2 ^ 31 by omega)), ite_self, J_X11_unlike_68]
        exact d1)
    z 0 50000 s f1 (by omega) (by omega) ⟨KQ.rfl', h1⟩
  have h0 : nI 0 = (0 : Int32) := nI_0
  rw [h0] at key
  obtain ⟨q, k1, f', k2, k3⟩ := key
  exact ⟨f', by rw [Option.bind_some]; exact k1.trans (by rw [k2]; rfl), k3⟩
/-! cranes -/
theorem lN_toInt2 {n : Nat} (h : n < 2 ^ 63) : (lN n).toInt = (n : Int) := Int64.toInt_ofNat_of_lt h
theorem lN_rem {a b : Nat} (ha : a < 2 ^ 63) (hb : b < 2 ^ 63) : l_rem (lN a) (lN b) = lN (a % b) := by
  unfold l_rem
  rw [show lN a / lN b = lN (a / b) from (Int64.ofNat_div ha hb).symm, lN_mul]
  have h := Nat.div_mul_le_self a b
  rw [lN_sub h]
  congr 1
  have := Nat.div_add_mod a b
  rw [Nat.mul_comm] at this
  omega
def c_lot (l : Nat) : Nat := l * 48271 % 2147483647
theorem c_lot_lt (l : Nat) : c_lot l < 2147483647 := Nat.mod_lt _ (by omega)
theorem lN_lot {l : Nat} (h : l < 2147483647) : l_rem (lN l * (48271 : Int64)) (2147483647 : Int64) = lN (c_lot l) := by
  have k1 : (48271 : Int64) = lN 48271 := by decide +kernel
  have k2 : (2147483647 : Int64) = lN 2147483647 := by decide +kernel
  rw [k1, k2, lN_mul, lN_rem (by omega) (by omega)]
  rfl
theorem lN_6 (l : Nat) (h : l < 2147483647) : (l_rem (lN l) (6 : Int64)).toInt32 = nI (l % 6) := by
  have k1 : (6 : Int64) = lN 6 := by decide +kernel
  rw [k1, lN_rem (by omega) (by omega), lN_i]
theorem lN_10 (l : Nat) (h : l < 2147483647) : (l_rem (lN l) (10 : Int64)).toInt32 = nI (l % 10) := by
  have k1 : (10 : Int64) = lN 10 := by decide +kernel
  rw [k1, lN_rem (by omega) (by omega), lN_i]
/-- one look by lots -/
def c_turn (n : Nat) (l : Nat) (s : Nat → Nat → Int32) : Nat → Nat → Int32 := if c_lot l % 6 < n then e_up s 2 (c_lot l % 6) (if 10 ≤ s 1 (c_lot l % 6) then nI (c_lot (c_lot l) % 10) else nI (10 + c_lot (c_lot l) % 10)) else s
def w_craneF (tk : Nat → Nat → List (Nat × Int32)) (n : Nat) (_ : Nat) (a : Nat × (Nat → Nat → Int32)) : Nat × (Nat → Nat → Int32) := (c_lot (c_lot a.1), (w_day tk n (c_turn n a.1 a.2)).2)
def w_crane (tk : Nat → Nat → List (Nat × Int32)) (n l : Nat) (s : Nat → Nat → Int32) : Nat → Nat → Int32 := (itF (w_craneF tk n) 8 0 (l, s)).2
theorem wf_look {n : Nat} {s : Nat → Nat → Int32} (h : w_wf n s) {p : Nat} {b : Nat} (hb : b < 20) (hne : p < n → ∀ a, a < 20 → s 1 p = nI a → a / 10 ≠ b / 10) : w_wf n (e_up s 2 p (nI b)) := by
  refine ⟨fun q hq => ?_, h.2⟩
  obtain ⟨⟨a, b0, h1, h2, h3, h4, h5⟩, k2⟩ := h.1 q hq
  refine ⟨?_, k2⟩
  by_cases e : q = p
  · refine ⟨a, b, h1, hb, h3, ?_, hne (e ▸ hq) a h1 (e ▸ h3)⟩
    rw [e_up_at, if_pos e]
  · refine ⟨a, b0, h1, h2, h3, ?_, h5⟩
    rw [e_up_at, if_neg e]
    exact h4
theorem wf_turn {n : Nat} {s : Nat → Nat → Int32} (h : w_wf n s) (l : Nat) : w_wf n (c_turn n l s) := by
  unfold c_turn
  split
  next hp =>
    obtain ⟨a, b0, h1, h2, h3, h4, h5⟩ := (h.1 _ hp).1
    by_cases q : a < 10
    · rw [if_neg (by rw [h3, k_10]; exact nI_ge q (by omega))]
      exact wf_look h (by omega) (fun _ a' ha' e => by
        have := nI_inj (by omega) (by omega) (h3.symm.trans e)
        omega)
    · rw [if_pos (by rw [h3, k_10]; exact nI_le (by omega) (by omega))]
      exact wf_look h (by omega) (fun _ a' ha' e => by
        have := nI_inj (by omega) (by omega) (h3.symm.trans e)
        omega)
  next => exact h
theorem sq_cranes {f : Nat → Nat → Int32} {r : Nat → Nat → Option Nat} {n : Nat} {tk : Nat → Nat → List (Nat × Int32)} {s : Nat → Nat → Int32} (h : SQ f r 52 n tk s) (hw : w_wf n s) {l : Nat} (hl : l < 200000) : ∃ f', f_X10_passCraneDays SS 0 (nI l) (f, r) = some (f', r) ∧ KT f f' ∧ SQ f' r 60 n tk (w_crane tk n (l + 1) s) := by
  have hG : GG (f, r) := h.cs.1
  have h6 := h.le
  have hS : IsS 60 := Or.inr (Or.inl rfl)
  have r52 : ∀ f, e_gR SS (f, r) 10 0 2 = some 52 := fun f => (rf10 (g := (f, r)) hG).2.2.1
  have r60 : ∀ f, e_gR SS (f, r) 10 0 3 = some 60 := fun f => (rf10 (g := (f, r)) hG).2.2.2.1
  have r61 : ∀ f, e_gR SS (f, r) 7 60 0 = some 61 := fun f => (rfS (g := (f, r)) hG hS).1
  have r62 : ∀ f, e_gR SS (f, r) 7 60 1 = some 62 := fun f => (rfS (g := (f, r)) hG hS).2.1
  have a61 : ∀ (f : Nat → Nat → Int32) {p : Nat}, p < 6 → e_aI SS (f, r) 0 61 (nI p) = some (f 61 p) := fun f p hp => aI_ok (arS hS).1 hp (by omega)
  have s62 : ∀ (f : Nat → Nat → Int32) {p : Nat} (v : Int32), p < 6 → e_aS SS (f, r) 0 62 (nI p) v = some (e_up f 62 p v, r) := fun f p v hp => aS_ok (arS hS).2.1 hp (by omega)
  have k8 : (8 : Int32) = nI 8 := by decide +kernel
  have e1 : (nI l).toInt64 + (1 : Int64) = lN (l + 1) := by rw [nI_l (by omega)]; exact lN_1 l
  obtain ⟨f1, c1, c2, c3⟩ := sq_think h hw
  unfold f_X10_passCraneDays
  rw [if_pos ob10]
  simp only [r60, r52, Option.bind_some, c1, e1]
  have key := loopY (L := fun m k (a : Int64 × (Nat → Nat → Int32)) => L_X10_passCraneDays_19 m SS 0 a.1 k (a.2, r)) (n := 8) (F := w_craneF tk n)
    (I := fun _ t a => a.1 = lN t.1 ∧ t.1 < 2147483647 ∧ KT f1 a.2 ∧ SQ a.2 r 60 n tk t.2) (P := fun t q => ∃ f', q = (f', r) ∧ KT f1 f' ∧ SQ f' r 60 n tk t.2)
    (fun m t a hI => by
      refine ⟨(a.2, r), ?_, a.2, rfl, hI.2.2⟩
      show L_X10_passCraneDays_19 (m + 1) SS 0 a.1 (nI 8) (a.2, r) = _
      rw [L_X10_passCraneDays_19, k8, if_pos (nI_le (Nat.le_refl 8) (by omega))])
    (fun m i t a hi hI => by
      obtain ⟨i1, i2, i3, i4⟩ := hI
      have l1 := c_lot_lt t.1
      have l2 := c_lot_lt (c_lot t.1)
      have go : ∀ b : Nat → Nat → Int32, KT f1 b → SQ b r 60 n tk (c_turn n t.1 t.2) → ∃ s', J_X10_passCraneDays_109 (L_X10_passCraneDays_19 m SS) SS 0 (lN (c_lot (c_lot t.1))) (nI i) (b, r) = (fun (a : Int64 × (Nat → Nat → Int32)) => L_X10_passCraneDays_19 m SS 0 a.1 (nI (i + 1)) (a.2, r)) s' ∧ s'.1 = lN (w_craneF tk n i t).1 ∧ (w_craneF tk n i t).1 < 2147483647 ∧ KT f1 s'.2 ∧ SQ s'.2 r 60 n tk (w_craneF tk n i t).2 := by
        intro b hb1 hb2
        obtain ⟨f', b1, b2, b3⟩ := sq_day hb2
        refine ⟨(lN (c_lot (c_lot t.1)), f'), ?_, rfl, l2, hb1.trans (KT.kp b2), b3⟩
        unfold J_X10_passCraneDays_109
        simp only [r60, Option.bind_some, b1, nI_1]
      show ∃ s', L_X10_passCraneDays_19 (m + 1) SS 0 a.1 (nI i) (a.2, r) = _ ∧ _
      rw [L_X10_passCraneDays_19, k8, if_neg (nI_ge hi (by omega)), i1]
      simp only [r60, Option.bind_some, lN_lot i2, lN_lot l1, lN_6 _ l1, lN_10 _ l2, sq_has i4]
      by_cases hp : c_lot t.1 % 6 < n
      · rw [s_has_k h6 hp, if_neg (by decide)]
        have e61 : a.2 61 (c_lot t.1 % 6) = t.2 1 (c_lot t.1 % 6) := i4.row (j := 1) (by omega) (by omega) _ hp
        simp only [r60, r61, r62, Option.bind_some, a61 _ (show c_lot t.1 % 6 < 6 by omega), e61, J_X10_passCraneDays_108, s62 _ _ (show c_lot t.1 % 6 < 6 by omega)]
        have e10 : (10 : Int32) + nI (c_lot (c_lot t.1) % 10) = nI (10 + c_lot (c_lot t.1) % 10) := nI_add 10 _
        have gg : ∀ v, c_turn n t.1 t.2 = e_up t.2 2 (c_lot t.1 % 6) v → ∃ s', J_X10_passCraneDays_109 (L_X10_passCraneDays_19 m SS) SS 0 (lN (c_lot (c_lot t.1))) (nI i) (e_up a.2 62 (c_lot t.1 % 6) v, r) = (fun (a : Int64 × (Nat → Nat → Int32)) => L_X10_passCraneDays_19 m SS 0 a.1 (nI (i + 1)) (a.2, r)) s' ∧ s'.1 = lN (w_craneF tk n i t).1 ∧ (w_craneF tk n i t).1 < 2147483647 ∧ KT f1 s'.2 ∧ SQ s'.2 r 60 n tk (w_craneF tk n i t).2 := by
          intro v hv
          exact go _ (i3.trans (KT.up (j := 2) (by omega))) (by rw [hv]; exact i4.up (j := 2) (by omega) _ v)
        by_cases q : (10 : Int32) ≤ t.2 1 (c_lot t.1 % 6)
        · rw [if_pos q]
          exact gg _ (by unfold c_turn; rw [if_pos hp, if_pos q])
        · rw [if_neg q, e10]
          exact gg _ (by unfold c_turn; rw [if_pos hp, if_neg q])
      · rcases s_has_or h6 (nI (c_lot t.1 % 6)) with z | ⟨k, k1, k2, k3⟩
        · rw [z, if_pos rfl]
          exact go _ i3 (by unfold c_turn; rw [if_neg hp]; exact i4)
        · have := nI_inj (by omega) (by omega) k2
          omega)
    8 0 50000 (l + 1, s) (lN (l + 1), f1) (by omega) (by omega) ⟨rfl, by show l + 1 < _; omega, KT.rfl', c3⟩
  have h0 : nI 0 = (0 : Int32) := nI_0
  rw [h0] at key
  obtain ⟨q, k1, f', k2, k3, k4⟩ := key
  exact ⟨f', k1.trans (by rw [k2]), c2.trans k3, k4⟩
