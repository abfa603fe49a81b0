/-! untangle: members, looks given -/
def u_M (P : Nat → Bool) : Nat → List Nat
  | 0 => []
  | p + 1 => u_M P p ++ if P p = true then [p] else []
theorem u_M_len (P : Nat → Bool) : ∀ p, (u_M P p).length ≤ p := by
  intro p
  induction p with
  | zero => exact Nat.le_refl _
  | succ p ih =>
    rw [u_M, List.length_append]
    split <;> simp <;> omega
theorem gd_app {A B : List Nat} {k : Nat} (h : k < A.length) : (A ++ B).getD k 0 = A.getD k 0 := by rw [List.getD_eq_getElem?_getD, List.getD_eq_getElem?_getD, List.getElem?_append_left h]
theorem gd_one {A : List Nat} {x k : Nat} (h : k = A.length) : (A ++ [x]).getD k 0 = x := by
  subst h
  rw [List.getD_eq_getElem?_getD, List.getElem?_append_right (Nat.le_refl _)]
  simp
theorem u_M_get (P : Nat → Bool) : ∀ p k, k < (u_M P p).length → (u_M P p).getD k 0 < p ∧ P ((u_M P p).getD k 0) = true := by
  intro p
  induction p with
  | zero => intro k hk; exact absurd hk (by simp [u_M])
  | succ p ih =>
    intro k hk
    rw [u_M] at hk ⊢
    by_cases y : k < (u_M P p).length
    · have := ih k y
      rw [gd_app y]
      exact ⟨by omega, this.2⟩
    · by_cases z : P p = true
      · rw [if_pos z] at hk ⊢
        rw [List.length_append] at hk
        have hk : k < (u_M P p).length + 1 := hk
        rw [gd_one (by omega)]
        exact ⟨Nat.lt_succ_self p, z⟩
      · rw [if_neg z, List.append_nil] at hk
        exact absurd hk y
theorem u_M_inj (P : Nat → Bool) : ∀ p i j, i < j → j < (u_M P p).length → (u_M P p).getD i 0 < (u_M P p).getD j 0 := by
  intro p
  induction p with
  | zero => intro i j _ hk; exact absurd hk (by simp [u_M])
  | succ p ih =>
    intro i j hi hj
    rw [u_M] at hj ⊢
    by_cases y : j < (u_M P p).length
    · rw [gd_app y, gd_app (by omega)]
      exact ih i j hi y
    · by_cases z : P p = true
      · rw [if_pos z] at hj ⊢
        rw [List.length_append] at hj
        have hj : j < (u_M P p).length + 1 := hj
        rw [gd_one (k := j) (by omega), gd_app (by omega)]
        exact (u_M_get P p i (by omega)).1
      · rw [if_neg z, List.append_nil] at hj
        exact absurd hj y
/-- the members of a side: some of n, no one twice -/
def MJ (M : Nat → Nat) (m n : Nat) : Prop := (∀ k, k < m → M k < n) ∧ ∀ i j, i < m → j < m → M i = M j → i = j
theorem u_M_mj (P : Nat → Bool) (n : Nat) : MJ (fun k => (u_M P n).getD k 0) (u_M P n).length n := by
  refine ⟨fun k hk => (u_M_get P n k hk).1, fun i j hi hj e => ?_⟩
  have e : (u_M P n).getD i 0 = (u_M P n).getD j 0 := e
  rcases (by omega : i < j ∨ i = j ∨ j < i) with y | y | y
  · have := u_M_inj P n i j y hj; omega
  · exact y
  · have := u_M_inj P n j i y hi; omega
/-- a street where looks were changed among members alone; where they are given by an order -/
def UO (s : Nat → Nat → Int32) (M : Nat → Nat) (m : Nat) (t : Nat → Nat → Int32) : Prop := (∀ j, j ≠ 2 → t j = s j) ∧ ∀ p, (∀ i, i < m → M i ≠ p) → t 2 p = s 2 p
def US (s : Nat → Nat → Int32) (M : Nat → Nat) (a : Nat → Nat) (m : Nat) (t : Nat → Nat → Int32) : Prop := UO s M m t ∧ ∀ i, i < m → t 2 (M i) = s 2 (M (a i))
theorem US.same {s : Nat → Nat → Int32} {M : Nat → Nat} {a : Nat → Nat} {m : Nat} {t t' : Nat → Nat → Int32} (h : US s M a m t) (h' : US s M a m t') (p : Nat) : t 2 p = t' 2 p := by
  by_cases y : ∃ i, i < m ∧ M i = p
  · obtain ⟨i, hi, rfl⟩ := y
    rw [h.2 i hi, h'.2 i hi]
  · have z : ∀ i, i < m → M i ≠ p := fun i hi e => y ⟨i, hi, e⟩
    rw [h.1.2 p z, h'.1.2 p z]
def w_giv (s : Nat → Nat → Int32) (M : Nat → Nat) (a : Nat → Nat) (i : Nat) (t : Nat → Nat → Int32) : Nat → Nat → Int32 := e_up t 2 (M i) (s 2 (M (a i)))
theorem w_giv_us {s : Nat → Nat → Int32} {M : Nat → Nat} {a : Nat → Nat} {m n : Nat} (hM : MJ M m n) {t : Nat → Nat → Int32} (h : UO s M m t) : ∀ k, k ≤ m → UO s M m (itF (w_giv s M a) k 0 t) ∧ ∀ i, i < k → itF (w_giv s M a) k 0 t 2 (M i) = s 2 (M (a i)) := by
  intro k
  induction k with
  | zero => intro _; exact ⟨h, fun i hi => by omega⟩
  | succ k ih =>
    intro hk
    obtain ⟨⟨i1, i2⟩, i3⟩ := ih (by omega)
    rw [itF_next]
    refine ⟨⟨fun j hj => ?_, fun p hp => ?_⟩, fun i hi => ?_⟩
    · unfold w_giv
      rw [e_up_row hj]
      exact i1 j hj
    · unfold w_giv
      rw [e_up_ne (Or.inr (fun e => hp k (by omega) e.symm))]
      exact i2 p hp
    · unfold w_giv
      rw [e_up_at]
      by_cases y : M i = M k
      · have := hM.2 i k (by omega) (by omega) y
        rw [if_pos y, this]
      · rw [if_neg y]
        exact i3 i (by
          by_cases z : i = k
          · rw [z] at y; exact absurd rfl y
          · omega)
/-- how many lines cross where looks are given by an order -/
def w_C (s : Nat → Nat → Int32) (M : Nat → Nat) (a : Nat → Nat) (m n : Nat) : Int32 := s_cross (s 1) (itF (w_giv s M a) m 0 s 2) n
theorem US.cross {s : Nat → Nat → Int32} {M : Nat → Nat} {a : Nat → Nat} {m n : Nat} (hM : MJ M m n) {t : Nat → Nat → Int32} (h : US s M a m t) : s_cross (t 1) (t 2) n = w_C s M a m n := by
  have k := w_giv_us (a := a) hM (t := s) ⟨fun _ _ => rfl, fun _ _ => rfl⟩ m (Nat.le_refl m)
  exact s_cross_c (fun p _ => by rw [h.1.1 1 (by omega)]) (fun p _ => h.same k p)
/-- what stays, but for members and their order -/
def KT6 (f f' : Nat → Nat → Int32) : Prop := ∀ b, NS b → b ≠ 5 → b ≠ 6 → (b < 60 ∨ 67 ≤ b) → f' b = f b
theorem KT6.trans {f f' f'' : Nat → Nat → Int32} (h : KT6 f f') (k : KT6 f' f'') : KT6 f f'' := fun b h1 h2 h3 h4 => (k b h1 h2 h3 h4).trans (h b h1 h2 h3 h4)
theorem KT.six {f f' : Nat → Nat → Int32} (h : KT f f') : KT6 f f' := fun b h1 _ _ h4 => h b h1 h4
theorem KT6.of {f f' : Nat → Nat → Int32} (h : ∀ b, b ≠ 5 → b ≠ 6 → b ≠ 62 → f' b = f b) : KT6 f f' := fun b _ h2 h3 h4 => h b h2 h3 (by omega)
theorem SQ.kt6 {f f' : Nat → Nat → Int32} {r : Nat → Nat → Option Nat} {o n : Nat} {tk : Nat → Nat → List (Nat × Int32)} {s : Nat → Nat → Int32} (h : SQ f r o n tk s) (ho : o = 52 ∨ o = 68) (k : KT6 f f') : SQ f' r o n tk s := by
  obtain ⟨s0, h1, h2⟩ := h
  have ns : ∀ j, j < 7 → f' (o + j) = f (o + j) := fun j hj => k _ (by unfold NS; omega) (by omega) (by omega) (by omega)
  have n0 : f' o = f o := ns 0 (by omega)
  refine ⟨s0, ⟨⟨h1.1.1, h1.1.2.1, ?_, h1.1.2.2.2⟩, ?_, fun j hj => (ns j hj).trans (h1.2.2.1 j hj), h1.2.2.2⟩, h2⟩
  · show f' o 6 = _
    rw [n0]
    exact h1.1.2.2.1
  · intro t ht e
    have := h1.2.1 t ht ((congrFun n0 8).symm.trans e)
    refine ⟨⟨this.1.1, fun p hp => ?_, fun p hp j hj => ?_⟩, this.2⟩
    · show f' _ _ = _
      rw [k _ (by unfold NS; omega) (by omega) (by omega) (by omega)]
      exact this.1.2.1 p hp
    · show f' _ _ = _ ∧ f' _ _ = _ ∧ _
      rw [k (8 + 5 * t) (by unfold NS; omega) (by omega) (by omega) (by omega), k (9 + 5 * t) (by unfold NS; omega) (by omega) (by omega) (by omega)]
      exact this.1.2.2 p hp j hj
/-- a street whose rows are as they were, wherever members and order lie -/
theorem SQ.o56 {f f' : Nat → Nat → Int32} {r : Nat → Nat → Option Nat} {o n : Nat} {tk : Nat → Nat → List (Nat × Int32)} {s : Nat → Nat → Int32} (h : SQ f r o n tk s) (k : ∀ b, b ≠ 5 → b ≠ 6 → f' b = f b) (ho : 7 ≤ o) : SQ f' r o n tk s := by
  obtain ⟨s0, h1, h2⟩ := h
  have ns : ∀ j, j < 7 → f' (o + j) = f (o + j) := fun j hj => k _ (by omega) (by omega)
  have n0 : f' o = f o := ns 0 (by omega)
  refine ⟨s0, ⟨⟨h1.1.1, h1.1.2.1, ?_, h1.1.2.2.2⟩, ?_, fun j hj => (ns j hj).trans (h1.2.2.1 j hj), h1.2.2.2⟩, h2⟩
  · show f' o 6 = _
    rw [n0]
    exact h1.1.2.2.1
  · intro t ht e
    have := h1.2.1 t ht ((congrFun n0 8).symm.trans e)
    refine ⟨⟨this.1.1, fun p hp => ?_, fun p hp j hj => ?_⟩, this.2⟩
    · show f' _ _ = _
      rw [k _ (by omega) (by omega)]
      exact this.1.2.1 p hp
    · show f' _ _ = _ ∧ f' _ _ = _ ∧ _
      rw [k (8 + 5 * t) (by omega) (by omega), k (9 + 5 * t) (by omega) (by omega)]
      exact this.1.2.2 p hp j hj
theorem IN.kt6 {f f' : Nat → Nat → Int32} {r : Nat → Nat → Option Nat} {n tc tz : Nat} {tk : Nat → Nat → List (Nat × Int32)} {s : Nat → Nat → Int32} (h : IN f r n tc tz tk s) (k : KT6 f f') : IN f' r n tc tz tk s := by
  obtain ⟨f2, hf2⟩ : ∃ f2 : Nat → Nat → Int32, f2 = fun b => if b = 5 ∨ b = 6 then f b else f' b := ⟨_, rfl⟩
  have k2 : KT f f2 := fun b h1 h2 => by
    rw [hf2]
    show (if b = 5 ∨ b = 6 then f b else f' b) = f b
    by_cases y : b = 5 ∨ b = 6
    · rw [if_pos y]
    · rw [if_neg y]; exact k b h1 (by omega) (by omega) h2
  have e : ∀ b, b ≠ 5 → b ≠ 6 → f' b = f2 b := fun b h1 h2 => by
    rw [hf2]
    show f' b = if b = 5 ∨ b = 6 then f b else f' b
    rw [if_neg (by omega)]
  have h2 := h.kt k2
  clear hf2 h k k2
  obtain ⟨hS, hM, hR⟩ := h2
  obtain ⟨q1, q2, g10, g11, g12, g13, g14⟩ := hR
  refine ⟨hS.o56 e (by omega), hM.of (by rw [e 76 (by omega) (by omega)]) (by rw [e 76 (by omega) (by omega)]) (by rw [e 76 (by omega) (by omega)]) (e 77 (by omega) (by omega)) (e 78 (by omega) (by omega)) (fun j _ => by rw [e 79 (by omega) (by omega)]) (e 81 (by omega) (by omega)) (e 82 (by omega) (by omega)), ?_, ?_, fun t ht => ?_, g11, g12, fun i hi => ?_, ?_⟩
  · rw [e 0 (by omega) (by omega), e 76 (by omega) (by omega)]; exact q1
  · rw [e 0 (by omega) (by omega), e 76 (by omega) (by omega), e 4 (by omega) (by omega), e 80 (by omega) (by omega), e 89 (by omega) (by omega)]; exact q2
  · obtain ⟨c1, c2, c3⟩ := g10 t ht
    exact ⟨c1.of (e _ (by omega) (by omega)) (e _ (by omega) (by omega)) (e _ (by omega) (by omega)), c2.of (e 81 (by omega) (by omega)) (e 82 (by omega) (by omega)), c3⟩
  · obtain ⟨so, z, q⟩ := g13 i hi
    refine ⟨so, z, ?_⟩
    unfold SH
    rw [e (37 + 2 * i) (by omega) (by omega), e (38 + 2 * i) (by omega) (by omega), e 85 (by omega) (by omega), e 86 (by omega) (by omega), e 87 (by omega) (by omega)]
    exact q
  · rw [e 0 (by omega) (by omega), e 76 (by omega) (by omega)]
    rcases g14 with q | ⟨q1, q2, ni, si, i1, i2, i3, i4, i5, i6, i7, i8, i9, i10⟩
    · exact Or.inl q
    · refine Or.inr ⟨q1, q2, ni, si, i1, i2.o56 e (by omega), i3, i4, i5, i6, ?_, ?_, ?_, ?_⟩
      · rw [e 84 (by omega) (by omega)]; exact i7
      · rw [e 84 (by omega) (by omega)]; exact i8
      · rw [e 84 (by omega) (by omega)]; exact i9
      · rw [e 83 (by omega) (by omega)]; exact i10
def MD (f : Nat → Nat → Int32) (M : Nat → Nat) (m : Nat) : Prop := ∀ k, k < m → f 5 k = nI (M k)
theorem x10_give {f : Nat → Nat → Int32} {r : Nat → Nat → Option Nat} {n : Nat} {tk : Nat → Nat → List (Nat × Int32)} {s t : Nat → Nat → Int32} (h52 : SQ f r 52 n tk s) (h60 : SQ f r 60 n tk t) {M a : Nat → Nat} {m : Nat} (h6 : m ≤ 6) (hM : MJ M m n) (ha : ∀ k, k < m → a k < m) (hD : MD f M m) (hO : OD f a m) : ∃ f', f_X10_giveLooks SS 0 (nI m) (f, r) = some (f', r) ∧ (∀ b, b ≠ 62 → f' b = f b) ∧ SQ f' r 60 n tk (itF (w_giv s M a) m 0 t) := by
  have hG : GG (f, r) := h52.cs.1
  have n6 := h52.le
  have hS : IsS 60 := Or.inr (Or.inl rfl)
  have r52 : ∀ f, e_gR SS (f, r) 10 0 2 = some 52 := fun f => (rf10 (g := (f, r)) hG).2.2.1
  have r60 : ∀ f, e_gR SS (f, r) 10 0 3 = some 60 := fun f => (rf10 (g := (f, r)) hG).2.2.2.1
  have r62 : ∀ f, e_gR SS (f, r) 7 60 1 = some 62 := fun f => (rfS (g := (f, r)) hG hS).2.1
  have r54 : ∀ f, e_gR SS (f, r) 7 52 1 = some 54 := fun f => (rfS (g := (f, r)) hG (Or.inl rfl)).2.1
  have key := loopY (L := fun q i (x : Nat → Nat → Int32) => L_X10_giveLooks_2 q SS 0 (nI m) i (x, r)) (n := m) (F := w_giv s M a)
    (I := fun _ t x => (∀ b, b ≠ 62 → x b = f b) ∧ SQ x r 60 n tk t) (P := fun t q => ∃ f', q = (f', r) ∧ (∀ b, b ≠ 62 → f' b = f b) ∧ SQ f' r 60 n tk t)
    (fun q t x hI => by
      refine ⟨(x, r), ?_, x, rfl, hI.1, hI.2⟩
      show L_X10_giveLooks_2 (q + 1) SS 0 (nI m) (nI m) (x, r) = _
      rw [L_X10_giveLooks_2, if_pos (nI_le (Nat.le_refl m) (by omega))])
    (fun q i t x hi hI => by
      obtain ⟨i1, i2⟩ := hI
      have hai := ha i hi
      have m1 := hM.1 i hi
      have m2 := hM.1 (a i) hai
      have e5 : ∀ k, k < m → x 5 k = nI (M k) := fun k hk => by rw [i1 5 (by omega)]; exact hD k hk
      have e6 : x 6 i = nI (a i) := by rw [i1 6 (by omega)]; exact (hO i hi).2
      have e54 : x 54 (M (a i)) = s 2 (M (a i)) := by rw [i1 54 (by omega)]; exact h52.row (j := 2) (by omega) (by omega) _ m2
      refine ⟨e_up x 62 (M i) (s 2 (M (a i))), ?_, fun b hb => by rw [e_up_row hb]; exact i1 b hb, i2.up (j := 2) (by omega) (M i) _⟩
      show L_X10_giveLooks_2 (q + 1) SS 0 (nI m) (nI i) (x, r) = _
      rw [L_X10_giveLooks_2, if_neg (nI_ge hi (by omega)), r60, Option.bind_some, r62, Option.bind_some, r105 hG, Option.bind_some, a5_ (by omega), Option.bind_some, r52, Option.bind_some, r54, Option.bind_some, Option.bind_some, r106 hG, Option.bind_some, a6_ (by omega), Option.bind_some, e6, a5_ (by omega), Option.bind_some, e5 _ hai, e5 _ hi, aI_ok (arS (Or.inl rfl)).2.1 (show M (a i) < 6 by omega) (by omega), Option.bind_some, aS_ok (arS hS).2.1 (show M i < 6 by omega) (by omega), Option.bind_some, nI_1]
      show L_X10_giveLooks_2 q SS 0 (nI m) (nI (i + 1)) (e_up x 62 (M i) (x 54 (M (a i))), r) = _
      rw [e54])
    m 0 50000 t f (by omega) (by omega) ⟨fun _ _ => rfl, h60⟩
  have h0 : nI 0 = (0 : Int32) := nI_0
  rw [h0] at key
  obtain ⟨q, k1, f', k2, k3⟩ := key
  refine ⟨f', ?_, k3⟩
  unfold f_X10_giveLooks
  rw [if_pos ob10, k1, k2]
