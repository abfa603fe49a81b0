/-- a loop whose end is only known to keep a promise -/
theorem loopR {R σ : Type} {L : Nat → Int32 → σ → Option R} {n : Nat} {I : Nat → σ → Prop} {P : R → Prop}
    (hend : ∀ m s, I n s → ∃ r, L (m + 1) (nI n) s = some r ∧ P r)
    (hstep : ∀ m i s, i < n → I i s → ∃ s', L (m + 1) (nI i) s = L m (nI (i + 1)) s' ∧ I (i + 1) s') :
    ∀ k i m s, i + k = n → k < m → I i s → ∃ r, L m (nI i) s = some r ∧ P r := by
  intro k
  induction k with
  | zero =>
    intro i m s hi hm hI
    obtain ⟨m, rfl⟩ : ∃ q, m = q + 1 := ⟨m - 1, by omega⟩
    have : i = n := by omega
    subst this
    exact hend m s hI
  | succ k ih =>
    intro i m s hi hm hI
    obtain ⟨m, rfl⟩ : ∃ q, m = q + 1 := ⟨m - 1, by omega⟩
    obtain ⟨s', h2, h3⟩ := hstep m i s (by omega) hI
    rw [h2]
    exact ih (i + 1) m s' (by omega) (by omega) h3
theorem itF_snoc {σ : Type} {F : Nat → σ → σ} : ∀ k i s, itF F (k + 1) i s = F (i + k) (itF F k i s) := by
  intro k
  induction k with
  | zero => intro i s; rfl
  | succ k ih =>
    intro i s
    have e : itF F (k + 1 + 1) i s = itF F (k + 1) (i + 1) (F i s) := rfl
    have e2 : itF F (k + 1) i s = itF F k (i + 1) (F i s) := rfl
    rw [e, ih, e2]
    congr 1
    omega
theorem itF_next {σ : Type} {F : Nat → σ → σ} (i : Nat) (s : σ) : itF F (i + 1) 0 s = F i (itF F i 0 s) := by rw [itF_snoc, Nat.zero_add]
/-- a street as rows: 0 its numbers, 1 where one is, 2 whom one looks at, 3 how one leans, 4 the kind, 5 the more, 6 kept -/
def VW (f : Nat → Nat → Int32) (o : Nat) (s : Nat → Nat → Int32) : Prop := ∀ j, j < 7 → f (o + j) = s j
def KD (n : Nat) (s : Nat → Nat → Int32) : Prop := ∀ p, p < n → ∃ k, k < 6 ∧ s 4 p = nI k
def w_nm (s : Nat → Nat → Int32) (n p : Nat) : Nat → Int32 := s_names (s 1) (s 2) (s 3) (s 6) (s 5) n (s 0 7) p
def w_lean (tk : Nat → Nat → List (Nat × Int32)) (s : Nat → Nat → Int32) (n p : Nat) : Int32 := s_leanK (s 4 p).toNatClampNeg (s_say tk (s 0 8) 0 (w_nm s n p)) (s_met (s 1) (s 2) n p) (s 0 7) (s 5 p)
def w_hold (tk : Nat → Nat → List (Nat × Int32)) (s : Nat → Nat → Int32) (n p : Nat) : Int32 := i_max 0 (s_holdK (s 4 p).toNatClampNeg (s_say tk (s 0 8) 1 (w_nm s n p)) (s 5 p))
def w_mind (tk : Nat → Nat → List (Nat × Int32)) (s : Nat → Nat → Int32) (n p : Nat) : Int32 := s_mindK (s 4 p).toNatClampNeg (s_say tk (s 0 8) 2 (w_nm s n p)) (s 5 p)
def SW (g : e_G) (o n : Nat) (tk : Nat → Nat → List (Nat × Int32)) (s : Nat → Nat → Int32) : Prop := CS g o n ∧ HT g o tk ∧ VW g.1 o s ∧ KD n s
theorem SW.ke {g : e_G} {o n : Nat} {tk : Nat → Nat → List (Nat × Int32)} {s : Nat → Nat → Int32} (h : SW g o n tk s) {f : Nat → Nat → Int32} (k : KE g.1 f) : SW (f, g.2) o n tk s := ⟨k.cs (f := g.1) h.1, k.ht (f := g.1) h.1.2.1 h.2.1, fun j hj => (k.S h.1.2.1 hj).trans (h.2.2.1 j hj), h.2.2.2⟩
theorem SW.nm {g : e_G} {o n : Nat} {tk : Nat → Nat → List (Nat × Int32)} {s : Nat → Nat → Int32} (h : SW g o n tk s) (p : Nat) : s_nm g.1 o n p = w_nm s n p := by
  have v := h.2.2.1
  have v0 : g.1 o = s 0 := v 0 (by omega)
  unfold s_nm w_nm
  rw [v 1 (by omega), v 2 (by omega), v 3 (by omega), v 5 (by omega), v 6 (by omega), v0]
theorem cs_lean {g : e_G} {o n : Nat} {tk : Nat → Nat → List (Nat × Int32)} {s : Nat → Nat → Int32} (h : SW g o n tk s) {p : Nat} (hpn : p < n) : ∃ f', f_X7_leaning SS o (nI p) g = some (w_lean tk s n p, (f', g.2)) ∧ KE g.1 f' := by
  have hS := h.1.2.1
  have v := h.2.2.1
  have v0 : g.1 o = s 0 := v 0 (by omega)
  have hp : p < 6 := Nat.lt_of_lt_of_le hpn h.1.2.2.2
  obtain ⟨k, hk, e⟩ := h.2.2.2 p hpn
  obtain ⟨f, h1, h2⟩ := cs_says h.1 h.2.1 hp (q := 0) (by omega)
  refine ⟨f, ?_, h2⟩
  have h' := h.ke h2
  have v' := h'.2.2.1
  have v0' : f o = s 0 := v' 0 (by omega)
  have v5' : f (o + 5) = s 5 := v' 5 (by omega)
  have hm := cs_met h'.1 hp
  unfold f_X7_leaning
  rw [if_pos (obS hS), cs_kind h.1 hp hk (by rw [v 4 (by omega)]; exact e)]
  have k0 : (0 : Int32) = nI 0 := nI_0.symm
  rw [h.nm p, v0] at h1
  simp only [Option.bind_some, k0, h1, hm, gI_ok (obS hS), (rfS h'.1.1 hS).2.2.2.2.1, aI_ok (arS hS).2.2.2.2.1 hp (by omega : 6 < 2 ^ 31), dv_lean hk, v0', v5']
  unfold w_lean
  rw [e, nI_clamp (by omega), show f (o + 1) = s 1 from v' 1 (by omega), show f (o + 2) = s 2 from v' 2 (by omega)]
theorem cs_hold {g : e_G} {o n : Nat} {tk : Nat → Nat → List (Nat × Int32)} {s : Nat → Nat → Int32} (h : SW g o n tk s) {p : Nat} (hpn : p < n) : ∃ f', f_X7_holding SS o (nI p) g = some (w_hold tk s n p, (f', g.2)) ∧ KE g.1 f' := by
  have hS := h.1.2.1
  have v := h.2.2.1
  have v0 : g.1 o = s 0 := v 0 (by omega)
  have hp : p < 6 := Nat.lt_of_lt_of_le hpn h.1.2.2.2
  obtain ⟨k, hk, e⟩ := h.2.2.2 p hpn
  obtain ⟨f, h1, h2⟩ := cs_says h.1 h.2.1 hp (q := 1) (by omega)
  refine ⟨f, ?_, h2⟩
  have h' := h.ke h2
  have v' := h'.2.2.1
  have v5' : f (o + 5) = s 5 := v' 5 (by omega)
  unfold f_X7_holding
  rw [if_pos (obS hS), cs_kind h.1 hp hk (by rw [v 4 (by omega)]; exact e)]
  have k1 : (1 : Int32) = nI 1 := by decide +kernel
  rw [h.nm p, v0, ← k1] at h1
  simp only [Option.bind_some, h1, (rfS h'.1.1 hS).2.2.2.2.1, aI_ok (arS hS).2.2.2.2.1 hp (by omega : 6 < 2 ^ 31), dv_hold hk, v5']
  unfold w_hold
  rw [e, nI_clamp (by omega)]
theorem cs_mind {g : e_G} {o n : Nat} {tk : Nat → Nat → List (Nat × Int32)} {s : Nat → Nat → Int32} (h : SW g o n tk s) {p : Nat} (hpn : p < n) : ∃ f', f_X7_minding SS o (nI p) g = some (w_mind tk s n p, (f', g.2)) ∧ KE g.1 f' := by
  have hS := h.1.2.1
  have v := h.2.2.1
  have v0 : g.1 o = s 0 := v 0 (by omega)
  have hp : p < 6 := Nat.lt_of_lt_of_le hpn h.1.2.2.2
  obtain ⟨k, hk, e⟩ := h.2.2.2 p hpn
  obtain ⟨f, h1, h2⟩ := cs_says h.1 h.2.1 hp (q := 2) (by omega)
  refine ⟨f, ?_, h2⟩
  have h' := h.ke h2
  have v' := h'.2.2.1
  have v5' : f (o + 5) = s 5 := v' 5 (by omega)
  unfold f_X7_minding
  rw [if_pos (obS hS), cs_kind h.1 hp hk (by rw [v 4 (by omega)]; exact e)]
  have k1 : (2 : Int32) = nI 2 := by decide +kernel
  rw [h.nm p, v0, ← k1] at h1
  simp only [Option.bind_some, h1, (rfS h'.1.1 hS).2.2.2.2.1, aI_ok (arS hS).2.2.2.2.1 hp (by omega : 6 < 2 ^ 31), dv_mind hk, v5']
  unfold w_mind
  rw [e, nI_clamp (by omega)]
/-- the minding of those not kept -/
def w_rest (tk : Nat → Nat → List (Nat × Int32)) (s : Nat → Nat → Int32) (n : Nat) : Int32 := itF (σ := Int32) (fun i a => if s 6 i = 0 then a + w_mind tk s n i else a) n 0 0
theorem cs_rest {g : e_G} {o n : Nat} {tk : Nat → Nat → List (Nat × Int32)} {s : Nat → Nat → Int32} (h : SW g o n tk s) : ∃ f', f_X7_mindingOfTheRest SS o g = some (w_rest tk s n, (f', g.2)) ∧ KE g.1 f' := by
  have hS := h.1.2.1
  have h6 := h.1.2.2.2
  unfold f_X7_mindingOfTheRest
  rw [if_pos (obS hS)]
  have key := loopR (L := fun m i (a : Int32 × (Nat → Nat → Int32)) => L_X7_mindingOfTheRest_4 m SS o a.1 i (a.2, g.2)) (n := n)
    (I := fun i a => KE g.1 a.2 ∧ a.1 = itF (σ := Int32) (fun i a => if s 6 i = 0 then a + w_mind tk s n i else a) i 0 0)
    (P := fun r => r.1 = w_rest tk s n ∧ ∃ f', r.2 = (f', g.2) ∧ KE g.1 f')
    (fun m a hI => by
      refine ⟨(a.1, (a.2, g.2)), ?_, hI.2, a.2, rfl, hI.1⟩
      show L_X7_mindingOfTheRest_4 (m + 1) SS o a.1 (nI n) (a.2, g.2) = _
      have hn : a.2 o 6 = nI n := (h.ke hI.1).1.2.2.1
      rw [L_X7_mindingOfTheRest_4]
      simp only [gI_ok (obS hS), Option.bind_some, hn]
      rw [if_pos (nI_le (Nat.le_refl n) (by omega))])
    (fun m i a hi hI => by
      have h' := h.ke hI.1
      have hn : a.2 o 6 = nI n := h'.1.2.2.1
      have v6 : a.2 (o + 6) = s 6 := h'.2.2.1 6 (by omega)
      obtain ⟨f2, b1, b2⟩ := cs_mind h' (p := i) hi
      show ∃ s', L_X7_mindingOfTheRest_4 (m + 1) SS o a.1 (nI i) (a.2, g.2) = _ ∧ _
      rw [L_X7_mindingOfTheRest_4]
      simp only [gI_ok (obS hS), Option.bind_some, hn, (rfS h'.1.1 hS).2.2.2.2.2.1]
      rw [if_neg (nI_ge hi (by omega)), aI_ok (arS hS).2.2.2.2.2.1 (by omega) (by omega)]
      simp only [Option.bind_some, v6, J_X7_mindingOfTheRest_29, nI_1, b1]
      by_cases q : s 6 i = 0
      · rw [if_pos q]
        exact ⟨(a.1 + w_mind tk s n i, f2), rfl, hI.1.trans b2, by rw [itF_next, if_pos q, hI.2]⟩
      · rw [if_neg q]
        exact ⟨a, rfl, hI.1, by rw [itF_next, if_neg q, hI.2]⟩)
    n 0 50000 ((0 : Int32), g.1) (by omega) (by omega) ⟨KE.rfl', rfl⟩
  have h0 : nI 0 = (0 : Int32) := nI_0
  rw [h0] at key
  obtain ⟨r, k1, k2, f', k3, k4⟩ := key
  refine ⟨f', k1.trans ?_, k4⟩
  obtain ⟨r1, r2⟩ := r
  simp only at k2 k3
  rw [k2, k3]
