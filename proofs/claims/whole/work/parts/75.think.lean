/-! till one is kept; the first that is otherwise -/
def w_tillF (tk : Nat → Nat → List (Nat × Int32)) (n p : Nat) (i : Nat) (t : Nat → Nat → Int32) : Sum Int32 (Nat → Nat → Int32) := if t 6 p = 0 then .inr (w_day tk n t).2 else .inl (nI i)
def w_till (tk : Nat → Nat → List (Nat × Int32)) (n : Nat) (s : Nat → Nat → Int32) (p : Nat) : Int32 := itE (w_tillF tk n p) (fun _ => 61) 61 0 s
theorem it_fin {σ : Type} {F : Nat → σ → Sum Int32 σ} {N : Nat} (hF : ∀ i t v, i < N → F i t = .inl v → ∃ j, j < N ∧ v = nI j) (x y : Int32) : ∀ k i t, i + k ≤ N → (itE F (fun _ => x) k i t = x ∧ itE F (fun _ => y) k i t = y) ∨ ∃ j, j < N ∧ itE F (fun _ => x) k i t = nI j ∧ itE F (fun _ => y) k i t = nI j := by
  intro k
  induction k with
  | zero => intro i t _; exact Or.inl ⟨rfl, rfl⟩
  | succ k ih =>
    intro i t hi
    rw [itE, itE]
    cases e : F i t with
    | inl v =>
      obtain ⟨j, h1, h2⟩ := hF i t v (by omega) e
      exact Or.inr ⟨j, h1, h2, h2⟩
    | inr t' => exact ih (i + 1) t' (by omega)
theorem w_till_or (tk : Nat → Nat → List (Nat × Int32)) (n : Nat) (s : Nat → Nat → Int32) (p : Nat) : (w_till tk n s p = 61 ∧ itE (w_tillF tk n p) (fun _ => -1) 61 0 s = -1) ∨ ∃ j, j < 61 ∧ w_till tk n s p = nI j ∧ itE (w_tillF tk n p) (fun _ => -1) 61 0 s = nI j :=
  it_fin (N := 61) (fun i t v hi e => by
    unfold w_tillF at e
    split at e
    · cases e
    · cases e
      exact ⟨i, hi, rfl⟩) 61 (-1) 61 0 s (by omega)
theorem sq_till {f : Nat → Nat → Int32} {r : Nat → Nat → Option Nat} {n : Nat} {tk : Nat → Nat → List (Nat × Int32)} {s : Nat → Nat → Int32} (h : SQ f r 60 n tk s) {p : Nat} (hp : p < n) : ∃ f', f_X10_daysTillKept SS 0 (nI p) (f, r) = some (w_till tk n s p, (f', r)) ∧ KT f f' := by
  have hG : GG (f, r) := h.cs.1
  have h6 := h.le
  have hS : IsS 60 := Or.inr (Or.inl rfl)
  have r60 : ∀ f, e_gR SS (f, r) 10 0 3 = some 60 := fun f => (rf10 (g := (f, r)) hG).2.2.2.1
  have r66 : ∀ f, e_gR SS (f, r) 7 60 5 = some 66 := fun f => (rfS (g := (f, r)) hG hS).2.2.2.2.2.1
  have a66 : ∀ f : Nat → Nat → Int32, e_aI SS (f, r) 1 66 (nI p) = some (f 66 p) := fun f => aI_ok (arS hS).2.2.2.2.2.1 (by omega) (by omega)
  have k60 : (60 : Int32) = nI 60 := by decide +kernel
  unfold f_X10_daysTillKept
  rw [if_pos ob10]
  have key := loopX (L := fun m i (a : Nat → Nat → Int32) => L_X10_daysTillKept_2 m SS 0 (nI p) i (a, r)) (n := 61) (F := w_tillF tk n p) (fin := fun _ => (61 : Int32))
    (I := fun _ t a => KT f a ∧ SQ a r 60 n tk t) (P := fun v q => ∃ f', q = (v, (f', r)) ∧ KT f f')
    (fun m t a hI => by
      refine ⟨((61 : Int32), (a, r)), ?_, a, rfl, hI.1⟩
      show L_X10_daysTillKept_2 (m + 1) SS 0 (nI p) (nI 61) (a, r) = _
      rw [L_X10_daysTillKept_2, k60, if_pos (nI_lt (by omega) (by omega))])
    (fun m i t a _ hi hI => by
      have e6 : a 66 p = t 6 p := hI.2.row (j := 6) (by omega) (by omega) p hp
      have st : L_X10_daysTillKept_2 (m + 1) SS 0 (nI p) (nI i) (a, r) = if t 6 p = 0 then (f_X7_passDay SS 60 (a, r)).bind fun q10 => L_X10_daysTillKept_2 m SS 0 (nI p) (nI (i + 1)) q10.2 else some (nI i, (a, r)) := by
        rw [L_X10_daysTillKept_2, k60, if_neg (nI_nlt (by omega) (by omega))]
        simp only [r60, r66, a66, Option.bind_some, e6, nI_1]
      by_cases z : t 6 p = 0
      · obtain ⟨f', b1, b2, b3⟩ := sq_day hI.2
        refine Or.inr ⟨(w_day tk n t).2, f', by unfold w_tillF; rw [if_pos z], ?_, hI.1.trans (KT.kp b2), b3⟩
        show L_X10_daysTillKept_2 (m + 1) SS 0 (nI p) (nI i) (a, r) = _
        rw [st, if_pos z, b1]
        rfl
      · refine Or.inl ⟨nI i, (nI i, (a, r)), by unfold w_tillF; rw [if_neg z], ?_, a, rfl, hI.1⟩
        show L_X10_daysTillKept_2 (m + 1) SS 0 (nI p) (nI i) (a, r) = _
        rw [st, if_neg z])
    61 0 50000 s f (by omega) (by omega) ⟨KT.rfl', h⟩
  have h0 : nI 0 = (0 : Int32) := nI_0
  rw [h0] at key
  obtain ⟨q, k1, f', k2, k3⟩ := key
  exact ⟨f', k1.trans (by rw [k2]; rfl), k3⟩
theorem mw_till {f : Nat → Nat → Int32} {r : Nat → Nat → Option Nat} {n : Nat} {tk : Nat → Nat → List (Nat × Int32)} {s : Nat → Nat → Int32} (h : MW f r n tk s) {p : Nat} (hp : p < n) : ∃ f', f_X11_keepsOf SS 76 (nI p) (f, r) = some (itE (w_tillF tk n p) (fun _ => -1) 61 0 s, (f', r)) ∧ KM f f' := by
  have hG : GG (f, r) := h.1.1
  have h6 := h.1.2.2
  have hp6 := h.lt hp
  have r79 : ∀ f, e_gR SS (f, r) 11 76 3 = some 79 := fun f => (rf11 (g := (f, r)) hG).2.2.1
  have aK : ∀ (f : Nat → Nat → Int32), e_aI SS (f, r) 0 79 ((4 : Int32) * nI p + 3) = some (f 79 (4 * p + 3)) := fun f => m_aK (f, r) hp6
  have k60 : (60 : Int32) = nI 60 := by decide +kernel
  obtain ⟨f1, c1, c2, c3, c4⟩ := m_keep hG
  have h1 : MW f1 r n tk s := h.of (by rw [c2 76 (by omega)]) (by rw [c2 76 (by omega)]) (by rw [c2 76 (by omega)]) (c2 77 (by omega)) (c2 78 (by omega)) (fun k _ => by rw [c2 79 (by omega)]) (c2 81 (by omega)) (c2 82 (by omega))
  have fin : ∀ a (v : Int32), KQ f1 a → ∃ f', (f_X11_lays SS 76 (a, r)).bind (fun q2 => some (v, q2)) = some (v, (f', r)) ∧ KM f f' := by
    intro a v hq
    obtain ⟨f', d1, d2, d3, d4, d5⟩ := m_lay (f := a) (r := r) hG
    exact ⟨f', by rw [d1]; rfl, KM.laid c2 c3 c4 hq d2 d3 d4 d5⟩
  unfold f_X11_keepsOf
  rw [if_pos ob11, c1]
  have key := loopX (L := fun m i (a : Nat → Nat → Int32) => L_X11_keepsOf_8 m SS 76 (nI p) (-1) i (a, r)) (n := 61) (F := w_tillF tk n p) (fin := fun _ => (-1 : Int32))
    (I := fun _ t a => KQ f1 a ∧ MW a r n tk t) (P := fun v q => ∃ f', q = (v, (f', r)) ∧ KM f f')
    (fun m t a hI => by
      obtain ⟨f', d1, d2⟩ := fin a (-1) hI.1
      refine ⟨((-1 : Int32), (f', r)), ?_, f', rfl, d2⟩
      show L_X11_keepsOf_8 (m + 1) SS 76 (nI p) (-1) (nI 61) (a, r) = _
      rw [L_X11_keepsOf_8, k60, if_pos (nI_lt (by omega) (by omega)), J_X11_keepsOf_50]
      exact d1)
    (fun m i t a hm hi hI => by
      have e6 : a 79 (4 * p + 3) = t 6 p := hI.2.row (j := 6) (by omega) (by omega) p hp
      have st : L_X11_keepsOf_8 (m + 1) SS 76 (nI p) (-1) (nI i) (a, r) = if t 6 p = 1 then (f_X11_dayOf SS 76 (a, r)).bind fun q2 => L_X11_keepsOf_8 m SS 76 (nI p) (nI i) (nI (i + 1)) q2.2 else (f_X11_dayOf SS 76 (a, r)).bind fun q2 => L_X11_keepsOf_8 m SS 76 (nI p) (-1) (nI (i + 1)) q2.2 := by
        rw [L_X11_keepsOf_8, k60, if_neg (nI_nlt (by omega) (by omega)), if_pos rfl]
        simp only [r79, aK, Option.bind_some, e6, nI_1, J_X11_keepsOf_38]
      obtain ⟨f', b1, b2, b3⟩ := m_day hI.2
      rcases (hI.2.2.2.1.1 p hp).2.1 with z | z
      · refine Or.inr ⟨(w_day tk n t).2, f', by unfold w_tillF; rw [if_pos z], ?_, hI.1.trans b2, b3⟩
        show L_X11_keepsOf_8 (m + 1) SS 76 (nI p) (-1) (nI i) (a, r) = _
        rw [st, if_neg (by rw [z]; decide), b1]
        rfl
      · obtain ⟨f2, d1, d2⟩ := fin f' (nI i) (hI.1.trans b2)
        refine Or.inl ⟨nI i, (nI i, (f2, r)), by unfold w_tillF; rw [if_neg (by rw [z]; decide)], ?_, f2, rfl, d2⟩
        show L_X11_keepsOf_8 (m + 1) SS 76 (nI p) (-1) (nI i) (a, r) = _
        rw [st, if_pos z, b1, Option.bind_some]
        obtain ⟨m, rfl⟩ : ∃ q, m = q + 1 := ⟨m - 1, by omega⟩
        rw [L_X11_keepsOf_8, if_neg (nI_ne_m1 (show i < 2 ^ 31 by omega)), ite_self, J_X11_keepsOf_50]
        exact d1)
    61 0 50000 s f1 (by omega) (by omega) ⟨KQ.rfl', h1⟩
  have h0 : nI 0 = (0 : Int32) := nI_0
  rw [h0] at key
  obtain ⟨q, k1, f', k2, k3⟩ := key
  exact ⟨f', by rw [Option.bind_some]; exact k1.trans (by rw [k2]), k3⟩
/-! behind some days -/
theorem bit_n : ∀ i, i < 6 → (1 : Int32) <<< (nI i &&& 31) = nI (2 ^ i) := by decide +kernel
theorem or_n (a b : Nat) : nI a ||| nI b = nI (a ||| b) := by
  apply Int32.toBitVec_inj.mp
  show BitVec.ofNat 32 a ||| BitVec.ofNat 32 b = BitVec.ofNat 32 (a ||| b)
  exact (BitVec.ofNat_or).symm
theorem s_bits_ex (K : Nat → Int32) {n : Nat} (h6 : n ≤ 6) : ∃ b, b < 64 ∧ s_bits K n = nI b := by
  have key : ∀ k, k ≤ n → ∃ b, b < 64 ∧ itF (σ := Int32) (fun i a => if K i = 0 then a else a ||| ((1 : Int32) <<< (nI i &&& 31))) k 0 0 = nI b := by
    intro k
    induction k with
    | zero => intro _; exact ⟨0, by omega, nI_0.symm⟩
    | succ k ih =>
      intro hk
      obtain ⟨b, h1, h2⟩ := ih (by omega)
      rw [itF_next, h2]
      split
      · exact ⟨b, h1, rfl⟩
      · rw [bit_n k (by omega), or_n]
        exact ⟨_, Nat.or_lt_two_pow (n := 6) h1 (Nat.pow_lt_pow_right (by omega) (by omega)), rfl⟩
  exact key n (Nat.le_refl n)
def c_ones (b : Nat) : Nat := b % 2 + b / 2 % 2 + b / 4 % 2 + b / 8 % 2 + b / 16 % 2 + b / 32 % 2
theorem cnt_c {b : Nat} (hb : b < 64) (g : e_G) : f_J6_bitCount_0f7a4 SS (nI b) g = some (nI (c_ones b), g) := by
  unfold f_J6_bitCount_0f7a4
  have key : ∀ b, b < 64 → ((f_J6_bitCount_0f7a4 SS (nI b) (fun _ _ => 0, fun _ _ => none)).map Prod.fst) = some (nI (c_ones b)) := by decide +kernel
  have := key b hb
  unfold f_J6_bitCount_0f7a4 at this
  simp only [Option.map_some, Option.some.injEq] at this
  rw [this]
theorem cnt_m {b : Nat} (hb : b < 64) (g : e_G) : f_X11_ones SS (nI b) g = some (nI (c_ones b), g) := by
  unfold f_X11_ones
  have key := loopF (L := fun m i (a : Int32) => L_X11_ones_4 m SS (nI b) a i g) (n := 6) (F := fun i a => a + ((nI b >>> (nI i &&& 31)) &&& (1 : Int32))) (fin := fun a => (a, g)) (I := fun _ _ => True)
    (fun m a _ => by
      show L_X11_ones_4 (m + 1) SS (nI b) a (nI 6) g = _
      have k6 : (6 : Int32) = nI 6 := by decide +kernel
      rw [L_X11_ones_4, k6, if_pos (nI_le (Nat.le_refl 6) (by omega))])
    (fun m i a hi _ => by
      refine ⟨?_, trivial⟩
      show L_X11_ones_4 (m + 1) SS (nI b) a (nI i) g = _
      have k6 : (6 : Int32) = nI 6 := by decide +kernel
      rw [L_X11_ones_4, k6, if_neg (nI_ge hi (by omega)), nI_1])
    6 0 50000 0 (by omega) (by omega) trivial
  have h0 : nI 0 = (0 : Int32) := nI_0
  rw [h0] at key
  have e : ∀ b, b < 64 → itF (σ := Int32) (fun i a => a + ((nI b >>> (nI i &&& 31)) &&& (1 : Int32))) 6 0 0 = nI (c_ones b) := by decide +kernel
  rw [e b hb] at key
  exact key
/-- how many are kept behind some days -/
def w_behind (tk : Nat → Nat → List (Nat × Int32)) (n d : Nat) (s : Nat → Nat → Int32) : Int32 := nI (c_ones (s_bits (w_days tk n d s 6) n).toNatClampNeg)
theorem sq_behind {f : Nat → Nat → Int32} {r : Nat → Nat → Option Nat} {n : Nat} {tk : Nat → Nat → List (Nat × Int32)} {s : Nat → Nat → Int32} (h : SQ f r 60 n tk s) {d : Nat} (hd : d < 49999) : ∃ f', f_X10_keptBehind SS 0 (nI d) (f, r) = some (w_behind tk n d s, (f', r)) ∧ KT f f' := by
  have hG : GG (f, r) := h.cs.1
  have r60 : ∀ f, e_gR SS (f, r) 10 0 3 = some 60 := fun f => (rf10 (g := (f, r)) hG).2.2.2.1
  obtain ⟨b, c1, c2⟩ := s_bits_ex (w_days tk n d s 6) h.le
  have key := sq_days (L := fun m i a => L_X10_keptBehind_2 m SS 0 (nI d) i (a, r)) (P := fun x => ∃ f', x = (w_behind tk n d s, (f', r)) ∧ KT f f') h hd
    (fun m a k q => by
      refine ⟨(w_behind tk n d s, (a, r)), ?_, a, rfl, KT.kp k⟩
      show L_X10_keptBehind_2 (m + 1) SS 0 (nI d) (nI d) (a, r) = _
      rw [L_X10_keptBehind_2, if_pos (nI_le (Nat.le_refl d) (by omega))]
      unfold w_behind
      simp only [r60, Option.bind_some, sq_bits q, c2, cnt_c c1, nI_clamp (show b < 2 ^ 31 by omega)])
    (fun m i a b w hi q e => by
      show L_X10_keptBehind_2 (m + 1) SS 0 (nI d) (nI i) (a, r) = L_X10_keptBehind_2 m SS 0 (nI d) (nI (i + 1)) (b, r)
      rw [L_X10_keptBehind_2, if_neg (nI_ge hi (by omega))]
      simp only [r60, e, Option.bind_some, nI_1])
  obtain ⟨x, k1, f', k2, k3⟩ := key
  refine ⟨f', ?_, k3⟩
  unfold f_X10_keptBehind
  rw [if_pos ob10, ← k2]
  exact k1
theorem mw_behind {f : Nat → Nat → Int32} {r : Nat → Nat → Option Nat} {n : Nat} {tk : Nat → Nat → List (Nat × Int32)} {s : Nat → Nat → Int32} (h : MW f r n tk s) {d : Nat} (hd : d < 49999) : ∃ f', f_X11_keptBehind SS 76 (nI d) (f, r) = some (w_behind tk n d s, (f', r)) ∧ KM f f' := by
  have hG : GG (f, r) := h.1.1
  obtain ⟨f1, c1, c2, c3, c4⟩ := m_keep hG
  have h1 : MW f1 r n tk s := h.of (by rw [c2 76 (by omega)]) (by rw [c2 76 (by omega)]) (by rw [c2 76 (by omega)]) (c2 77 (by omega)) (c2 78 (by omega)) (fun k _ => by rw [c2 79 (by omega)]) (c2 81 (by omega)) (c2 82 (by omega))
  obtain ⟨f2, b1, b2, b3⟩ := m_days h1 hd
  obtain ⟨b, e1, e2⟩ := s_bits_ex (w_days tk n d s 6) h.1.2.2
  obtain ⟨f3, d1, d2, d3, d4, d5⟩ := m_lay (f := f2) (r := r) hG
  refine ⟨f3, ?_, KM.laid c2 c3 c4 b2 d2 d3 d4 d5⟩
  unfold f_X11_keptBehind w_behind
  rw [if_pos ob11]
  simp only [c1, Option.bind_some, b1, mw_bits b3, e2, cnt_m e1, d1, nI_clamp (show b < 2 ^ 31 by omega)]
