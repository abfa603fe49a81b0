/-! two streets that are alike as far as their people go: the same words -/
def w_eq (n : Nat) (s t : Nat → Nat → Int32) : Prop := (s 0 7 = t 0 7 ∧ s 0 8 = t 0 8) ∧ ∀ j, 1 ≤ j → j ≤ 6 → ∀ p, p < n → s j p = t j p
theorem w_eq.refl (n : Nat) (s : Nat → Nat → Int32) : w_eq n s s := ⟨⟨rfl, rfl⟩, fun _ _ _ _ _ => rfl⟩
theorem w_eq.symm {n : Nat} {s t : Nat → Nat → Int32} (h : w_eq n s t) : w_eq n t s := ⟨⟨h.1.1.symm, h.1.2.symm⟩, fun j h1 h2 p hp => (h.2 j h1 h2 p hp).symm⟩
theorem w_eq.trans {n : Nat} {s t u : Nat → Nat → Int32} (h : w_eq n s t) (k : w_eq n t u) : w_eq n s u := ⟨⟨h.1.1.trans k.1.1, h.1.2.trans k.1.2⟩, fun j h1 h2 p hp => (h.2 j h1 h2 p hp).trans (k.2 j h1 h2 p hp)⟩
theorem w_eq.up {n : Nat} {s t : Nat → Nat → Int32} (h : w_eq n s t) (j i : Nat) (v : Int32) : w_eq n (e_up s j i v) (e_up t j i v) := by
  have k : ∀ b m, s b m = t b m → e_up s j i v b m = e_up t j i v b m := by
    intro b m e
    unfold e_up
    split
    · rfl
    · exact e
  exact ⟨⟨k _ _ h.1.1, k _ _ h.1.2⟩, fun b h1 h2 p hp => k _ _ (h.2 b h1 h2 p hp)⟩
theorem w_eq.r {n : Nat} {s t : Nat → Nat → Int32} (h : w_eq n s t) {j : Nat} (h1 : 1 ≤ j) (h2 : j ≤ 6) : ∀ p, p < n → s j p = t j p := h.2 j h1 h2
theorem s_who_c {W W' : Nat → Int32} {n : Nat} (h : ∀ p, p < n → W p = W' p) (w : Int32) : s_who W n w = s_who W' n w :=
  itE_congr (n := n) (fun i _ hi => by simp only [h i hi]) n 0 () (by omega)
theorem s_lookers_c {W W' : Nat → Int32} {n : Nat} (h : ∀ p, p < n → W p = W' p) (w : Int32) : s_lookers W n w = s_lookers W' n w :=
  itF_congr (n := n) (fun i _ hi => by simp only [h i hi]) n 0 0 (by omega)
theorem s_beside_c {W W' K K' : Nat → Int32} {n : Nat} (hW : ∀ p, p < n → W p = W' p) (hK : ∀ p, p < n → K p = K' p) {p : Nat} (hp : p < n) : s_beside W K n p = s_beside W' K' n p :=
  itF_congr (n := n) (fun i _ hi => by simp only [hW i hi, hK i hi, hW p hp]) n 0 0 (by omega)
theorem s_met_c {W W' L L' : Nat → Int32} {n : Nat} (h6 : n ≤ 6) (hW : ∀ p, p < n → W p = W' p) (hL : ∀ p, p < n → L p = L' p) {p : Nat} (hp : p < n) : s_met W L n p = s_met W' L' n p := by
  unfold s_met
  rw [s_who_c hW, hL p hp, hW p hp]
  rcases s_who_or W' n (L' p) with ⟨h1, -⟩ | ⟨j, h1, h2, -⟩
  · rw [h1, if_pos rfl, if_pos rfl]
  · rw [h2, nI_clamp (by omega), hL j h1]
theorem w_nm_c {n : Nat} {s t : Nat → Nat → Int32} (h : w_eq n s t) {p : Nat} (hp : p < n) : w_nm s n p = w_nm t n p := by
  funext k
  unfold w_nm s_names
  rw [h.r (j := 1) (by omega) (by omega) p hp, h.r (j := 2) (by omega) (by omega) p hp, h.r (j := 3) (by omega) (by omega) p hp, h.r (j := 5) (by omega) (by omega) p hp, h.1.1, s_beside_c (h.r (j := 1) (by omega) (by omega)) (h.r (j := 6) (by omega) (by omega)) hp, s_lookers_c (h.r (j := 2) (by omega) (by omega))]
theorem w_lean_c {n : Nat} {s t : Nat → Nat → Int32} {tk : Nat → Nat → List (Nat × Int32)} (h6 : n ≤ 6) (h : w_eq n s t) {p : Nat} (hp : p < n) : w_lean tk s n p = w_lean tk t n p := by
  unfold w_lean
  rw [w_nm_c h hp, s_met_c h6 (h.r (j := 1) (by omega) (by omega)) (h.r (j := 2) (by omega) (by omega)) hp, h.r (j := 4) (by omega) (by omega) p hp, h.r (j := 5) (by omega) (by omega) p hp, h.1.1, h.1.2]
theorem w_hold_c {n : Nat} {s t : Nat → Nat → Int32} {tk : Nat → Nat → List (Nat × Int32)} (h : w_eq n s t) {p : Nat} (hp : p < n) : w_hold tk s n p = w_hold tk t n p := by
  unfold w_hold
  rw [w_nm_c h hp, h.r (j := 4) (by omega) (by omega) p hp, h.r (j := 5) (by omega) (by omega) p hp, h.1.2]
theorem w_mind_c {n : Nat} {s t : Nat → Nat → Int32} {tk : Nat → Nat → List (Nat × Int32)} (h : w_eq n s t) {p : Nat} (hp : p < n) : w_mind tk s n p = w_mind tk t n p := by
  unfold w_mind
  rw [w_nm_c h hp, h.r (j := 4) (by omega) (by omega) p hp, h.r (j := 5) (by omega) (by omega) p hp, h.1.2]
theorem w_new_c {n : Nat} {s t : Nat → Nat → Int32} {tk : Nat → Nat → List (Nat × Int32)} (h6 : n ≤ 6) (h : w_eq n s t) {i : Nat} (hi : i < n) : w_eq n (w_new tk n s i) (w_new tk n t i) := by
  unfold w_new
  rw [h.r (j := 3) (by omega) (by omega) i hi, w_lean_c h6 h hi]
  exact h.up _ _ _
def w_eq2 (n : Nat) (a b : Int32 × (Nat → Nat → Int32)) : Prop := a.1 = b.1 ∧ w_eq n a.2 b.2
theorem w_step_c {n : Nat} {a b : Int32 × (Nat → Nat → Int32)} {tk : Nat → Nat → List (Nat × Int32)} (h6 : n ≤ 6) (h : w_eq2 n a b) {i : Nat} (hi : i < n) : w_eq2 n (w_step tk n i a) (w_step tk n i b) := by
  have e6 := h.2.r (j := 6) (by omega) (by omega) i hi
  have hn := w_new_c (tk := tk) h6 h.2 hi
  have e3 := hn.r (j := 3) (by omega) (by omega) i hi
  have eh := w_hold_c (tk := tk) hn hi
  unfold w_step
  rw [e6, e3, eh]
  split
  · split
    · exact ⟨h.1, hn⟩
    · exact ⟨by rw [h.1], hn.up 6 i 1⟩
  · exact h
theorem w_walk_c {n : Nat} {s t : Nat → Nat → Int32} {tk : Nat → Nat → List (Nat × Int32)} (h6 : n ≤ 6) (h : w_eq n s t) : ∀ i, i ≤ n → w_eq2 n (w_walk tk n s i) (w_walk tk n t i) := by
  intro i
  induction i with
  | zero => intro _; exact ⟨rfl, h⟩
  | succ i ih =>
    intro hi
    have a : w_walk tk n s (i + 1) = w_step tk n i (w_walk tk n s i) := itF_next i _
    have b : w_walk tk n t (i + 1) = w_step tk n i (w_walk tk n t i) := itF_next i _
    rw [a, b]
    exact w_step_c h6 (ih (by omega)) (by omega)
theorem w_day_c {n : Nat} {s t : Nat → Nat → Int32} {tk : Nat → Nat → List (Nat × Int32)} (h6 : n ≤ 6) (h : w_eq n s t) : w_eq2 n (w_day tk n s) (w_day tk n t) := by
  have k := w_walk_c (tk := tk) h6 h n (Nat.le_refl n)
  refine ⟨k.1, ?_⟩
  show w_eq n (e_up _ 0 7 _) (e_up _ 0 7 _)
  rw [k.2.1.1]
  exact k.2.up _ _ _
theorem w_days_c {n : Nat} {s t : Nat → Nat → Int32} {tk : Nat → Nat → List (Nat × Int32)} (h6 : n ≤ 6) (h : w_eq n s t) : ∀ d, w_eq n (w_days tk n d s) (w_days tk n d t) := by
  intro d
  induction d with
  | zero => exact h
  | succ d ih =>
    have a : w_days tk n (d + 1) s = (w_day tk n (w_days tk n d s)).2 := itF_next d _
    have b : w_days tk n (d + 1) t = (w_day tk n (w_days tk n d t)).2 := itF_next d _
    rw [a, b]
    exact (w_day_c h6 ih).2
theorem w_rest_c {n : Nat} {s t : Nat → Nat → Int32} {tk : Nat → Nat → List (Nat × Int32)} (h : w_eq n s t) : w_rest tk s n = w_rest tk t n :=
  itF_congr (n := n) (fun i _ hi => by simp only [h.r (j := 6) (by omega) (by omega) i hi, w_mind_c h hi]) n 0 0 (by omega)
theorem s_bits_c {K K' : Nat → Int32} {n : Nat} (h : ∀ p, p < n → K p = K' p) : s_bits K n = s_bits K' n :=
  itF_congr (n := n) (fun i _ hi => by simp only [h i hi]) n 0 0 (by omega)
theorem s_sum_c {K K' : Nat → Int32} {n : Nat} (h : ∀ p, p < n → K p = K' p) : s_sum K n = s_sum K' n :=
  itF_congr (n := n) (fun i _ hi => by simp only [h i hi]) n 0 0 (by omega)
theorem s_unseen_c {W W' L L' : Nat → Int32} {n : Nat} (hW : ∀ p, p < n → W p = W' p) (hL : ∀ p, p < n → L p = L' p) : s_unseen W L n = s_unseen W' L' n :=
  itF_congr (n := n) (fun i _ hi => by simp only [hW i hi, s_lookers_c hL]) n 0 0 (by omega)
theorem s_meets_c {W W' L L' : Nat → Int32} {n : Nat} (h6 : n ≤ 6) (hW : ∀ p, p < n → W p = W' p) (hL : ∀ p, p < n → L p = L' p) : s_meets W L n = s_meets W' L' n :=
  itF_congr (n := n) (fun i _ hi => by simp only [s_met_c h6 hW hL hi, hL i hi, s_who_c hW]) n 0 0 (by omega)
theorem s_meets2_c {W W' L L' : Nat → Int32} {n : Nat} (h6 : n ≤ 6) (hW : ∀ p, p < n → W p = W' p) (hL : ∀ p, p < n → L p = L' p) : s_meets2 W L n = s_meets2 W' L' n :=
  itF_congr (n := n) (fun i _ hi => by simp only [s_met_c h6 hW hL hi, hW i hi]) n 0 0 (by omega)
theorem s_end_c {W W' L L' : Nat → Int32} {n : Nat} (hW : ∀ p, p < n → W p = W' p) (hL : ∀ p, p < n → L p = L' p) (sd : Int32) {i : Nat} (hi : i < n) : s_end W L sd i = s_end W' L' sd i := by
  unfold s_end
  rw [hW i hi, hL i hi]
theorem s_cross_c {W W' L L' : Nat → Int32} {n : Nat} (hW : ∀ p, p < n → W p = W' p) (hL : ∀ p, p < n → L p = L' p) : s_cross W L n = s_cross W' L' n :=
  itF_congr (n := n) (fun i a hi => itF_congr (n := n) (fun j b hj => by
    show (if 0 ≤ s_xs W L i j then b else b + 1) = _
    unfold s_xs
    rw [s_end_c hW hL 0 hi, s_end_c hW hL 0 hj, s_end_c hW hL 1 hi, s_end_c hW hL 1 hj]) _ _ _ (by omega)) n 0 0 (by omega)
theorem s_cross2_c {W W' L L' : Nat → Int32} {n : Nat} (hW : ∀ p, p < n → W p = W' p) (hL : ∀ p, p < n → L p = L' p) : s_cross2 W L n = s_cross2 W' L' n :=
  itF_congr (n := n) (fun i a hi => itF_congr (n := n) (fun j b hj => by
    show s_x2 W L i j b = _
    unfold s_x2
    rw [s_end_c hW hL 0 hi, s_end_c hW hL 0 hj, s_end_c hW hL 1 hi, s_end_c hW hL 1 hj]) _ _ _ (by omega)) n 0 0 (by omega)
theorem s_most_c {L L' : Nat → Int32} {n : Nat} (hL : ∀ p, p < n → L p = L' p) : s_most L n = s_most L' n :=
  itF_congr (n := 20) (fun i a hi => by simp only [s_lookers_c hL]) 20 0 _ (by omega)
theorem s_mayBe_c {W W' : Nat → Int32} {n : Nat} (hW : ∀ p, p < n → W p = W' p) {p : Nat} (hp : p < n) (w : Int32) : s_mayBe W n p w = s_mayBe W' n p w := by
  unfold s_mayBe
  rw [hW p hp, s_who_c hW]
