/-! sums; the two ways to count pairs -/
def sm_ (n : Nat) (F : Nat → Int32) : Int32 := itF (σ := Int32) (fun i a => a + F i) n 0 0
theorem sm_succ (n : Nat) (F : Nat → Int32) : sm_ (n + 1) F = sm_ n F + F n := itF_next n _
theorem sm_congr {n : Nat} {F G : Nat → Int32} (h : ∀ i, i < n → F i = G i) : sm_ n F = sm_ n G :=
  itF_congr (n := n) (fun i _ hi => by simp only [h i hi]) n 0 0 (by omega)
theorem sm_add (n : Nat) (F G : Nat → Int32) : sm_ n (fun i => F i + G i) = sm_ n F + sm_ n G := by
  induction n with
  | zero => rfl
  | succ n ih => rw [sm_succ, sm_succ, sm_succ, ih]; ac_rfl
theorem sm_zero {n : Nat} {F : Nat → Int32} (h : ∀ i, i < n → F i = 0) : sm_ n F = 0 := by
  induction n with
  | zero => rfl
  | succ n ih => rw [sm_succ, ih (fun i hi => h i (by omega)), h n (by omega)]; rfl
theorem sm_one {n j : Nat} {F : Nat → Int32} (hj : j < n) (h : ∀ q, q < n → q ≠ j → F q = 0) : sm_ n F = F j := by
  induction n with
  | zero => omega
  | succ n ih =>
    rw [sm_succ]
    by_cases e : j = n
    · subst e
      rw [sm_zero (fun i hi => h i (by omega) (by omega)), Int32.zero_add]
    · rw [ih (by omega) (fun q hq hne => h q (by omega) hne), h n (by omega) (fun z => e z.symm), Int32.add_zero]
theorem it_off {F : Nat → Int32} : ∀ (k i : Nat) (a : Int32), itF (σ := Int32) (fun i a => a + F i) k i a = a + itF (σ := Int32) (fun i a => a + F i) k i 0 := by
  intro k
  induction k with
  | zero => intro i a; exact (Int32.add_zero a).symm
  | succ k ih =>
    intro i a
    rw [itF, itF, ih, ih (i + 1) (0 + F i)]
    ac_rfl
theorem it_split {σ : Type} {F : Nat → σ → σ} : ∀ (a b i : Nat) (s : σ), itF F (a + b) i s = itF F b (i + a) (itF F a i s) := by
  intro a
  induction a with
  | zero => intro b i s; rw [Nat.zero_add]; rfl
  | succ a ih =>
    intro b i s
    rw [show a + 1 + b = (a + b) + 1 by omega, itF, itF, ih, show i + 1 + a = i + (a + 1) by omega]
theorem sm_tail {n i : Nat} {H : Nat → Int32} (hi : i < n) (a : Int32) : itF (σ := Int32) (fun j a => a + H j) (n - (i + 1)) (i + 1) a = a + sm_ n (fun j => if i < j then H j else 0) := by
  rw [it_off]
  congr 1
  have e : sm_ n (fun j => if i < j then H j else 0) = itF (σ := Int32) (fun j a => a + (if i < j then H j else 0)) (n - (i + 1)) (i + 1) (sm_ (i + 1) (fun j => if i < j then H j else 0)) := by
    have := it_split (F := fun j (a : Int32) => a + (if i < j then H j else 0)) (i + 1) (n - (i + 1)) 0 0
    rw [show i + 1 + (n - (i + 1)) = n by omega, Nat.zero_add] at this
    exact this
  rw [e, sm_zero (fun q hq => if_neg (by omega))]
  have key : ∀ k q (a : Int32), i < q → itF (σ := Int32) (fun j a => a + H j) k q a = itF (σ := Int32) (fun j a => a + (if i < j then H j else 0)) k q a := by
    intro k
    induction k with
    | zero => intros; rfl
    | succ k ih =>
      intro q a hq
      rw [itF, itF, if_pos hq]
      exact ih (q + 1) _ (by omega)
  exact key _ _ _ (by omega)
theorem sm_tri {n : Nat} {G : Nat → Nat → Int32} (h : ∀ i, i < n → G i i = 0) : sm_ n (fun i => sm_ n (fun j => G i j)) = sm_ n (fun i => sm_ n (fun j => if i < j then G i j + G j i else 0)) := by
  induction n with
  | zero => rfl
  | succ n ih =>
    have l : sm_ (n + 1) (fun i => sm_ (n + 1) (fun j => G i j)) = sm_ n (fun i => sm_ n (fun j => G i j)) + sm_ n (fun i => G i n) + sm_ n (fun j => G n j) := by
      rw [sm_succ, sm_congr (G := fun i => sm_ n (fun j => G i j) + G i n) (fun i _ => sm_succ n _), sm_add, sm_succ, h n (by omega), Int32.add_zero]
    have r : sm_ (n + 1) (fun i => sm_ (n + 1) (fun j => if i < j then G i j + G j i else 0)) = sm_ n (fun i => sm_ n (fun j => if i < j then G i j + G j i else 0)) + (sm_ n (fun i => G i n) + sm_ n (fun j => G n j)) := by
      rw [sm_succ, sm_congr (G := fun i => sm_ n (fun j => if i < j then G i j + G j i else 0) + (G i n + G n i)) (fun i hi => by rw [sm_succ, if_pos hi]), sm_add, sm_add, sm_zero (F := fun j => if n < j then G n j + G j n else 0) (fun j hj => if_neg (by omega)), Int32.add_zero]
    rw [l, r, ih (fun i hi => h i (by omega))]
    ac_rfl
theorem nI_div {a b : Nat} (ha : a < 2 ^ 31) (hb : b < 2 ^ 31) : nI a / nI b = nI (a / b) := (Int32.ofNat_div ha hb).symm
theorem nI_rem {a b : Nat} (ha : a < 2 ^ 31) (hb : b < 2 ^ 31) : i_rem (nI a) (nI b) = nI (a % b) := by
  unfold i_rem
  rw [nI_div ha hb, show nI (a / b) * nI b = nI (a / b * b) from (Int32.ofNat_mul _ _).symm]
  have h := Nat.div_mul_le_self a b
  have e : nI a - nI (a / b * b) = nI (a - a / b * b) := (Int32.ofNat_sub _ _ h).symm
  rw [e]
  congr 1
  have := Nat.div_add_mod a b
  rw [Nat.mul_comm] at this
  omega
theorem k_10 : (10 : Int32) = nI 10 := by decide +kernel
/-- a street in order -/
def w_wf (n : Nat) (s : Nat → Nat → Int32) : Prop := (∀ p, p < n → (∃ a b, a < 20 ∧ b < 20 ∧ s 1 p = nI a ∧ s 2 p = nI b ∧ a / 10 ≠ b / 10) ∧ (s 6 p = 0 ∨ s 6 p = 1) ∧ (∃ k, k < 6 ∧ s 4 p = nI k) ∧ (∃ m, m < 10 ∧ s 5 p = nI m) ∧ ∃ l, l < 100 ∧ s 3 p = nI l) ∧ ∀ p q, p < n → q < n → s 1 p = s 1 q → p = q
theorem s_cmp_n {a b : Nat} (ha : a < 2 ^ 31) (hb : b < 2 ^ 31) : s_cmp (nI a) (nI b) = if a < b then -1 else if a = b then 0 else 1 := by
  unfold s_cmp
  by_cases h : a < b
  · rw [if_neg (nI_ge h hb), if_pos h]
  · rw [if_pos (nI_le (by omega) ha), if_neg h]
    by_cases e : a = b
    · rw [if_pos (by rw [e]), if_pos e]
    · rw [if_neg (fun z => e (nI_inj ha hb z)), if_neg e]
theorem s_end_n {W L : Nat → Int32} {p a b : Nat} (ha : a < 20) (hb : b < 20) (hW : W p = nI a) (hL : L p = nI b) (hne : a / 10 ≠ b / 10) : ∃ u v, u < 10 ∧ v < 10 ∧ s_end W L 0 p = nI u ∧ s_end W L 1 p = nI (10 + v) := by
  have k0 : (0 : Int32) = nI 0 := nI_0.symm
  have k1 : (1 : Int32) = nI 1 := by decide +kernel
  unfold s_end
  rw [hW, hL, k_10, nI_div (by omega) (by omega), k0, k1, ]
  by_cases h : a < 10
  · refine ⟨a, b - 10, h, by omega, ?_, ?_⟩
    · rw [if_pos (by congr 1; omega)]
    · rw [if_neg (fun z => by have := nI_inj (by omega) (by omega) z; omega)]
      congr 1
      omega
  · refine ⟨b, a - 10, by omega, by omega, ?_, ?_⟩
    · rw [if_neg (fun z => by have := nI_inj (by omega) (by omega) z; omega)]
    · rw [if_pos (by congr 1; omega)]
      congr 1
      omega
def c_x2 (W L : Nat → Int32) (i j : Nat) : Int32 := if i_rem (s_end W L 0 j) 10 ≤ i_rem (s_end W L 0 i) 10 then 0 else if i_rem (s_end W L 1 i) 10 ≤ i_rem (s_end W L 1 j) 10 then 0 else 1
theorem s_x2_c (W L : Nat → Int32) (i j : Nat) (a : Int32) : s_x2 W L i j a = a + c_x2 W L i j := by
  unfold s_x2 c_x2
  split
  · exact (Int32.add_zero a).symm
  · split
    · exact (Int32.add_zero a).symm
    · rfl
theorem s_cross_eq {s : Nat → Nat → Int32} {n : Nat} (h : w_wf n s) : s_cross (s 1) (s 2) n = s_cross2 (s 1) (s 2) n := by
  have e2 : s_cross2 (s 1) (s 2) n = sm_ n (fun i => sm_ n (fun j => c_x2 (s 1) (s 2) i j)) :=
    itF_congr (n := n) (fun i a hi => by
      show itF (σ := Int32) (fun j a => s_x2 (s 1) (s 2) i j a) n 0 a = a + itF (σ := Int32) (fun j a => a + c_x2 (s 1) (s 2) i j) n 0 0
      rw [← it_off]
      exact itF_congr (n := n) (fun j b hj => s_x2_c _ _ i j b) n 0 a (by omega)) n 0 0 (by omega)
  have e1 : s_cross (s 1) (s 2) n = sm_ n (fun i => sm_ n (fun j => if i < j then (if 0 ≤ s_xs (s 1) (s 2) i j then 0 else 1) else 0)) :=
    itF_congr (n := n) (fun i a hi => by
      show itF (σ := Int32) (fun j a => if 0 ≤ s_xs (s 1) (s 2) i j then a else a + 1) (n - (i + 1)) (i + 1) a = a + _
      rw [← sm_tail hi]
      exact itF_congr (n := n) (fun j b hj => by
        split
        · exact (Int32.add_zero b).symm
        · rfl) _ _ a (by omega)) n 0 0 (by omega)
  rw [e1, e2, sm_tri (G := c_x2 (s 1) (s 2)) (fun i hi => by unfold c_x2; rw [if_pos (Int32.le_refl _)])]
  refine sm_congr (fun i hi => sm_congr (fun j hj => ?_))
  by_cases hij : i < j
  · rw [if_pos hij, if_pos hij]
    obtain ⟨a, b, ha, hb, hA, hB, hne⟩ := (h.1 i hi).1
    obtain ⟨a', b', ha', hb', hA', hB', hne'⟩ := (h.1 j hj).1
    obtain ⟨u, v, hu, hv, e1, e2⟩ := s_end_n (W := s 1) (L := s 2) ha hb hA hB hne
    obtain ⟨u', v', hu', hv', e1', e2'⟩ := s_end_n (W := s 1) (L := s 2) ha' hb' hA' hB' hne'
    unfold s_xs c_x2
    rw [e1, e2, e1', e2', k_10, nI_rem (by omega) (by omega), nI_rem (by omega) (by omega), nI_rem (by omega) (by omega), nI_rem (by omega) (by omega), s_cmp_n (by omega) (by omega), s_cmp_n (by omega) (by omega)]
    rw [show u % 10 = u by omega, show u' % 10 = u' by omega, show (10 + v) % 10 = v by omega, show (10 + v') % 10 = v' by omega]
    simp only [nI_leI (show u < 2 ^ 31 by omega) (show u' < 2 ^ 31 by omega), nI_leI (show u' < 2 ^ 31 by omega) (show u < 2 ^ 31 by omega), nI_leI (show v < 2 ^ 31 by omega) (show v' < 2 ^ 31 by omega), nI_leI (show v' < 2 ^ 31 by omega) (show v < 2 ^ 31 by omega)]
    rcases Nat.lt_trichotomy u u' with q | q | q <;> rcases Nat.lt_trichotomy v v' with r | r | r
    · rw [if_pos q, if_pos (show 10 + v < 10 + v' by omega), if_neg (show ¬ u' ≤ u by omega), if_pos (show v ≤ v' by omega), if_pos (show u ≤ u' by omega)]; decide +kernel
    · rw [if_pos q, if_neg (show ¬ 10 + v < 10 + v' by omega), if_pos (show 10 + v = 10 + v' by omega), if_neg (show ¬ u' ≤ u by omega), if_pos (show v ≤ v' by omega), if_pos (show u ≤ u' by omega)]; decide +kernel
    · rw [if_pos q, if_neg (show ¬ 10 + v < 10 + v' by omega), if_neg (show ¬ 10 + v = 10 + v' by omega), if_neg (show ¬ u' ≤ u by omega), if_neg (show ¬ v ≤ v' by omega), if_pos (show u ≤ u' by omega)]; decide +kernel
    · rw [if_neg (show ¬ u < u' by omega), if_pos q, if_pos (show u' ≤ u by omega), if_pos (show u ≤ u' by omega), Int32.zero_mul]; decide +kernel
    · rw [if_neg (show ¬ u < u' by omega), if_pos q, if_pos (show u' ≤ u by omega), if_pos (show u ≤ u' by omega), Int32.zero_mul]; decide +kernel
    · rw [if_neg (show ¬ u < u' by omega), if_pos q, if_pos (show u' ≤ u by omega), if_pos (show u ≤ u' by omega), Int32.zero_mul]; decide +kernel
    · rw [if_neg (show ¬ u < u' by omega), if_neg (show ¬ u = u' by omega), if_pos (show 10 + v < 10 + v' by omega), if_pos (show u' ≤ u by omega), if_neg (show ¬ u ≤ u' by omega), if_neg (show ¬ v' ≤ v by omega)]; decide +kernel
    · rw [if_neg (show ¬ u < u' by omega), if_neg (show ¬ u = u' by omega), if_neg (show ¬ 10 + v < 10 + v' by omega), if_pos (show 10 + v = 10 + v' by omega), if_pos (show u' ≤ u by omega), if_neg (show ¬ u ≤ u' by omega), if_pos (show v' ≤ v by omega)]; decide +kernel
    · rw [if_neg (show ¬ u < u' by omega), if_neg (show ¬ u = u' by omega), if_neg (show ¬ 10 + v < 10 + v' by omega), if_neg (show ¬ 10 + v = 10 + v' by omega), if_pos (show u' ≤ u by omega), if_neg (show ¬ u ≤ u' by omega), if_pos (show v' ≤ v by omega)]; decide +kernel
  · rw [if_neg hij, if_neg hij]
/-- one is met by the one at one's look, if that one looks back -/
theorem s_met_or {s : Nat → Nat → Int32} {n : Nat} (h6 : n ≤ 6) (h : w_wf n s) (p : Nat) : (s_met (s 1) (s 2) n p = 0 ∧ ∀ q, q < n → ¬ (s 1 q = s 2 p ∧ s 2 q = s 1 p)) ∨ ∃ j, j < n ∧ s_who (s 1) n (s 2 p) = nI j ∧ s_met (s 1) (s 2) n p = 1 ∧ (s 1 j = s 2 p ∧ s 2 j = s 1 p) ∧ ∀ q, q < n → q ≠ j → ¬ (s 1 q = s 2 p ∧ s 2 q = s 1 p) := by
  unfold s_met
  rcases s_who_or (s 1) n (s 2 p) with ⟨h1, h2⟩ | ⟨j, h1, h2, h3, -⟩
  · exact Or.inl ⟨by rw [if_pos h1], fun q hq z => h2 q hq z.1⟩
  · rw [h2, if_neg (nI_ne_m1 (by omega)), nI_clamp (by omega)]
    have uni : ∀ q, q < n → q ≠ j → ¬ (s 1 q = s 2 p ∧ s 2 q = s 1 p) := fun q hq hne z => hne (h.2 q j hq h1 (z.1.trans h3.symm))
    by_cases e : s 2 j = s 1 p
    · rw [if_pos e]
      exact Or.inr ⟨j, h1, rfl, rfl, ⟨h3, e⟩, uni⟩
    · rw [if_neg e]
      refine Or.inl ⟨rfl, fun q hq z => ?_⟩
      by_cases hqj : q = j
      · exact e (hqj ▸ z.2)
      · exact uni q hq hqj z
def c_mt (s : Nat → Nat → Int32) (p q : Nat) : Int32 := if s 1 q = s 2 p ∧ s 2 q = s 1 p then (if 10 ≤ s 1 p then 0 else 1) else 0
theorem s_meets_eq {s : Nat → Nat → Int32} {n : Nat} (h6 : n ≤ 6) (h : w_wf n s) : s_meets (s 1) (s 2) n = s_meets2 (s 1) (s 2) n := by
  have e2 : s_meets2 (s 1) (s 2) n = sm_ n (fun i => sm_ n (fun j => c_mt s i j)) :=
    itF_congr (n := n) (fun i a hi => by
      show (if s_met (s 1) (s 2) n i = 0 then a else if 10 ≤ s 1 i then a else a + 1) = a + sm_ n (fun j => c_mt s i j)
      rcases s_met_or h6 h i with ⟨h1, h2⟩ | ⟨j, h1, h2, h3, h4, h5⟩
      · rw [if_pos h1, sm_zero (F := fun j => c_mt s i j) (fun q hq => if_neg (h2 q hq)), Int32.add_zero]
      · rw [h3, if_neg (by decide), sm_one (F := fun j => c_mt s i j) h1 (fun q hq hne => if_neg (h5 q hq hne))]
        unfold c_mt
        rw [if_pos h4]
        split
        · exact (Int32.add_zero a).symm
        · rfl) n 0 0 (by omega)
  have e1 : s_meets (s 1) (s 2) n = sm_ n (fun i => sm_ n (fun j => if i < j then (if s 1 j = s 2 i ∧ s 2 j = s 1 i then 1 else 0) else 0)) :=
    itF_congr (n := n) (fun i a hi => by
      show (if s_met (s 1) (s 2) n i = 0 then a else if s_who (s 1) n (s 2 i) ≤ nI i then a else a + 1) = a + sm_ n (fun j => if i < j then (if s 1 j = s 2 i ∧ s 2 j = s 1 i then (1 : Int32) else 0) else 0)
      rcases s_met_or h6 h i with ⟨h1, h2⟩ | ⟨j, h1, h2, h3, h4, h5⟩
      · rw [if_pos h1, sm_zero (F := fun j => if i < j then (if s 1 j = s 2 i ∧ s 2 j = s 1 i then (1 : Int32) else 0) else 0) (fun q hq => by show (if i < q then (if s 1 q = s 2 i ∧ s 2 q = s 1 i then (1 : Int32) else 0) else 0) = 0; rw [if_neg (h2 q hq)]; split <;> rfl), Int32.add_zero]
      · rw [h3, if_neg (by decide), h2, sm_one (F := fun j => if i < j then (if s 1 j = s 2 i ∧ s 2 j = s 1 i then 1 else 0) else 0) h1 (fun q hq hne => by show (if i < q then (if s 1 q = s 2 i ∧ s 2 q = s 1 i then (1 : Int32) else 0) else 0) = 0; rw [if_neg (h5 q hq hne)]; split <;> rfl)]
        show _ = a + (if i < j then (if s 1 j = s 2 i ∧ s 2 j = s 1 i then (1 : Int32) else 0) else 0)
        rw [if_pos h4]
        by_cases hij : i < j
        · rw [if_neg (nI_ge hij (by omega)), if_pos hij]
        · rw [if_pos (nI_le (by omega) (by omega)), if_neg hij, Int32.add_zero]) n 0 0 (by omega)
  rw [e1, e2, sm_tri (G := c_mt s) (fun i hi => by
    obtain ⟨a, b, ha, hb, hA, hB, hne⟩ := (h.1 i hi).1
    refine if_neg (fun z => ?_)
    have := z.1
    rw [hA, hB] at this
    have := nI_inj (by omega) (by omega) this
    omega)]
  refine sm_congr (fun i hi => sm_congr (fun j hj => ?_))
  by_cases hij : i < j
  · rw [if_pos hij, if_pos hij]
    unfold c_mt
    by_cases m : s 1 j = s 2 i ∧ s 2 j = s 1 i
    · rw [if_pos m, if_pos m, if_pos (show s 1 i = s 2 j ∧ s 2 i = s 1 j from ⟨m.2.symm, m.1.symm⟩)]
      obtain ⟨a, b, ha, hb, hA, hB, hne⟩ := (h.1 i hi).1
      rw [hA, show s 1 j = nI b from m.1.trans hB, k_10]
      by_cases q : a < 10
      · rw [if_neg (nI_ge q (by omega)), if_pos (nI_le (by omega) (by omega))]
        decide +kernel
      · rw [if_pos (nI_le (by omega) (by omega)), if_neg (nI_ge (show b < 10 by omega) (by omega))]
        decide +kernel
    · rw [if_neg m, if_neg m, if_neg (show ¬ (s 1 i = s 2 j ∧ s 2 i = s 1 j) from fun z => m ⟨z.2.symm, z.1.symm⟩)]
      decide +kernel
  · rw [if_neg hij, if_neg hij]
theorem s_near : ∀ a, a < 20 → ∀ b, b < 20 → nI a / 10 = nI b / 10 → (i_abs (nI a - nI b) = 1 ↔ s_far (nI a) (nI b) = 1) := by decide +kernel
theorem s_far_self : ∀ a, a < 20 → ¬ s_far (nI a) (nI a) = 1 := by decide +kernel
theorem s_beside_eq {s : Nat → Nat → Int32} {n : Nat} (h : w_wf n s) (h6 : n ≤ 6) {p : Nat} (hp : p < n) : s_beside (s 1) (s 6) n p = s_beside2 (s 1) (s 6) n p :=
  itF_congr (n := n) (fun i x hi => by
    obtain ⟨a, b, ha, hb, hA, -, -⟩ := (h.1 i hi).1
    obtain ⟨a', b', ha', hb', hA', -, -⟩ := (h.1 p hp).1
    have hk := (h.1 i hi).2.1
    show (if s 6 i = 0 then x else if s 1 i / 10 = s 1 p / 10 then (if i_abs (s 1 i - s 1 p) = 1 then x + 1 else x) else x) = (if s 1 i / 10 = s 1 p / 10 then (if s_far (s 1 i) (s 1 p) = 1 then (if nI i = nI p then x else x + s 6 i) else x) else x)
    by_cases q1 : s 1 i / 10 = s 1 p / 10
    · rw [if_pos q1, if_pos q1]
      rw [hA, hA'] at q1 ⊢
      have e := s_near a ha a' ha' q1
      by_cases q2 : s_far (nI a) (nI a') = 1
      · rw [if_pos q2, if_pos (e.mpr q2)]
        have hne : ¬ nI i = nI p := by
          intro z
          have z := nI_inj (by omega) (by omega) z
          subst z
          have z := nI_inj (by omega) (by omega) (hA.symm.trans hA')
          subst z
          exact s_far_self a ha q2
        rw [if_neg hne]
        rcases hk with k | k
        · rw [k, if_pos rfl, Int32.add_zero]
        · rw [k, if_neg (by decide)]
      · rw [if_neg q2, if_neg (fun z => q2 (e.mp z))]
        split <;> rfl
    · rw [if_neg q1, if_neg q1]
      split <;> rfl) n 0 0 (by omega)
