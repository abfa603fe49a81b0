/-! THE PURE PART: the layout; reads and writes that are in order -/
def IsS (o : Nat) : Prop := o = 52 ∨ o = 60 ∨ o = 68
/-- references that stay: all but the Reader's -/
def R0 (a j : Nat) : Option Nat := if a < 76 then (hx_160.getD a e_d0).2.2.lookup j else (hm_183.getD (a - 76) e_d0).2.2.lookup j
def GG (g : e_G) : Prop := ∀ a j, a ≠ 3 → a < 96 → g.2 a j = R0 a j
def ArA (kd a len : Nat) : Prop := e_ar SS kd a = true ∧ (SS.2 a).2 = len
theorem ss1 : SS.1 = 96 := by decide +kernel
theorem obS {o : Nat} (h : IsS o) : e_ob SS 7 o = true := by
  rcases h with rfl | rfl | rfl <;> decide +kernel
theorem ob10 : e_ob SS 10 0 = true := by decide +kernel
theorem ob11 : e_ob SS 11 76 = true := by decide +kernel
theorem ob5 : e_ob SS 5 3 = true := by decide +kernel
theorem obT : ∀ t, t < 6 → e_ob SS 9 (7 + 5 * t) = true := by decide +kernel
theorem obSh : ∀ s, s < 4 → e_ob SS 6 (37 + 2 * s) = true := by decide +kernel
theorem obK : e_ob SS 3 46 = true ∧ e_ob SS 2 47 = true ∧ e_ob SS 8 48 = true ∧ e_ob SS 0 49 = true ∧ e_ob SS 1 50 = true ∧ e_ob SS 4 51 = true := by decide +kernel
theorem arS {o : Nat} (h : IsS o) : ArA 0 (o + 1) 6 ∧ ArA 0 (o + 2) 6 ∧ ArA 0 (o + 3) 6 ∧ ArA 0 (o + 4) 6 ∧ ArA 0 (o + 5) 6 ∧ ArA 1 (o + 6) 6 ∧ ArA 0 (o + 7) 6 := by
  unfold ArA
  rcases h with rfl | rfl | rfl <;> decide +kernel
theorem arC : ArA 2 1 6 ∧ ArA 4 2 4 ∧ ArA 0 4 160 ∧ ArA 0 5 6 ∧ ArA 0 6 6 ∧ ArA 3 45 6 := by
  unfold ArA
  decide +kernel
theorem arT : ∀ t, t < 6 → ArA 0 (8 + 5 * t) 160 ∧ ArA 0 (9 + 5 * t) 160 ∧ ArA 0 (10 + 5 * t) 160 ∧ ArA 0 (11 + 5 * t) 3 := by
  unfold ArA
  decide +kernel
theorem arSh : ∀ s, s < 4 → ArA 0 (38 + 2 * s) 40 := by
  unfold ArA
  decide +kernel
theorem arM : ArA 0 77 6 ∧ ArA 0 78 6 ∧ ArA 0 79 24 ∧ ArA 0 80 160 ∧ ArA 0 81 1200 ∧ ArA 0 82 24 ∧ ArA 0 83 24 ∧ ArA 0 84 3 ∧ ArA 0 85 4 ∧ ArA 0 86 4 ∧ ArA 0 87 160 ∧ ArA 0 88 44 ∧ ArA 0 89 96 ∧ ArA 0 90 200 ∧ ArA 0 91 200 ∧ ArA 0 92 6 ∧ ArA 0 93 25 ∧ ArA 0 94 6 ∧ ArA 0 95 6 := by
  unfold ArA
  decide +kernel
theorem rfS {g : e_G} (hG : GG g) {o : Nat} (h : IsS o) : e_gR SS g 7 o 0 = some (o + 1) ∧ e_gR SS g 7 o 1 = some (o + 2) ∧ e_gR SS g 7 o 2 = some (o + 3) ∧ e_gR SS g 7 o 3 = some (o + 4) ∧ e_gR SS g 7 o 4 = some (o + 5) ∧ e_gR SS g 7 o 5 = some (o + 6) ∧ e_gR SS g 7 o 9 = some (o + 7) ∧ e_gR SS g 7 o 10 = some 45 ∧ e_gR SS g 7 o 11 = some 1 := by
  unfold e_gR
  rw [if_pos (obS h)]
  have q : ∀ j, g.2 o j = R0 o j := fun j => hG o j (by rcases h with rfl | rfl | rfl <;> decide) (by rcases h with rfl | rfl | rfl <;> decide)
  simp only [q]
  rcases h with rfl | rfl | rfl <;> decide +kernel
theorem rf10 {g : e_G} (hG : GG g) : e_gR SS g 10 0 0 = some 1 ∧ e_gR SS g 10 0 1 = some 2 ∧ e_gR SS g 10 0 2 = some 52 ∧ e_gR SS g 10 0 3 = some 60 ∧ e_gR SS g 10 0 4 = some 68 ∧ e_gR SS g 10 0 5 = some 3 ∧ e_gR SS g 10 0 6 = some 4 ∧ e_gR SS g 10 0 7 = some 5 ∧ e_gR SS g 10 0 8 = some 6 := by
  unfold e_gR
  rw [if_pos ob10]
  have q : ∀ j, g.2 0 j = R0 0 j := fun j => hG 0 j (by decide) (by decide)
  simp only [q]
  decide +kernel
theorem rf11 {g : e_G} (hG : GG g) : e_gR SS g 11 76 1 = some 77 ∧ e_gR SS g 11 76 2 = some 78 ∧ e_gR SS g 11 76 3 = some 79 ∧ e_gR SS g 11 76 5 = some 80 ∧ e_gR SS g 11 76 7 = some 81 ∧ e_gR SS g 11 76 8 = some 82 ∧ e_gR SS g 11 76 12 = some 83 ∧ e_gR SS g 11 76 13 = some 84 ∧ e_gR SS g 11 76 14 = some 85 ∧ e_gR SS g 11 76 15 = some 86 ∧ e_gR SS g 11 76 16 = some 87 ∧ e_gR SS g 11 76 17 = some 88 ∧ e_gR SS g 11 76 22 = some 89 ∧ e_gR SS g 11 76 23 = some 90 ∧ e_gR SS g 11 76 27 = some 91 ∧ e_gR SS g 11 76 28 = some 92 ∧ e_gR SS g 11 76 29 = some 93 ∧ e_gR SS g 11 76 30 = some 94 ∧ e_gR SS g 11 76 31 = some 95 := by
  unfold e_gR
  rw [if_pos ob11]
  have q : ∀ j, g.2 76 j = R0 76 j := fun j => hG 76 j (by decide) (by decide)
  simp only [q]
  decide +kernel
theorem rfT {g : e_G} (hG : GG g) : ∀ t, t < 6 → e_gR SS g 9 (7 + 5 * t) 0 = some (8 + 5 * t) ∧ e_gR SS g 9 (7 + 5 * t) 1 = some (9 + 5 * t) ∧ e_gR SS g 9 (7 + 5 * t) 2 = some (10 + 5 * t) ∧ e_gR SS g 9 (7 + 5 * t) 3 = some (11 + 5 * t) := by
  intro t ht
  unfold e_gR
  have q : ∀ j, g.2 (7 + 5 * t) j = R0 (7 + 5 * t) j := fun j => hG _ j (by omega) (by omega)
  simp only [q, obT t ht, if_true]
  have key : ∀ t, t < 6 → R0 (7 + 5 * t) 0 = some (8 + 5 * t) ∧ R0 (7 + 5 * t) 1 = some (9 + 5 * t) ∧ R0 (7 + 5 * t) 2 = some (10 + 5 * t) ∧ R0 (7 + 5 * t) 3 = some (11 + 5 * t) := by decide +kernel
  exact key t ht
theorem rfSh {g : e_G} (hG : GG g) : ∀ s, s < 4 → e_gR SS g 6 (37 + 2 * s) 0 = some (38 + 2 * s) := by
  intro s hs
  unfold e_gR
  rw [if_pos (obSh s hs), hG _ _ (by omega) (by omega)]
  have key : ∀ s, s < 4 → R0 (37 + 2 * s) 0 = some (38 + 2 * s) := by decide +kernel
  exact key s hs
theorem gI_ok {g : e_G} {ci a k : Nat} (h : e_ob SS ci a = true) : e_gI SS g ci a k = some (g.1 a k) := by
  unfold e_gI
  rw [if_pos h]
theorem sI_ok {g : e_G} {ci a k : Nat} {v : Int32} (h : e_ob SS ci a = true) : e_sI SS g ci a k v = some (e_up g.1 a k v, g.2) := by
  unfold e_sI
  rw [if_pos h]
theorem e_in_nI {i n : Nat} (h : i < n) (hn : n < 2 ^ 31) : e_in (nI i) n = true := e_in_iff.mpr (vp_in_nI h hn)
theorem aI_ok {g : e_G} {kd a len i : Nat} (h : ArA kd a len) (hi : i < len) (hl : len < 2 ^ 31) : e_aI SS g kd a (nI i) = some (g.1 a i) := by
  unfold e_aI
  rw [h.2, h.1, e_in_nI hi hl, nI_clamp (by omega)]
  rfl
theorem aS_ok {g : e_G} {a len i : Nat} {v : Int32} (h : ArA 0 a len) (hi : i < len) (hl : len < 2 ^ 31) : e_aS SS g 0 a (nI i) v = some (e_up g.1 a i v, g.2) := by
  unfold e_aS
  rw [h.2, h.1, e_in_nI hi hl, nI_clamp (by omega)]
  rfl
theorem aSz_ok {g : e_G} {a len i : Nat} {v : Int32} (h : ArA 1 a len) (hi : i < len) (hl : len < 2 ^ 31) : e_aS SS g 1 a (nI i) v = some (e_up g.1 a i (vp_nar .boolean v), g.2) := by
  unfold e_aS
  rw [h.2, h.1, e_in_nI hi hl, nI_clamp (by omega)]
  rfl
theorem aR_ok {g : e_G} {kd a len i b : Nat} (h : ArA kd a len) (hi : i < len) (hl : len < 2 ^ 31) (hb : g.2 a i = some b) : e_aR SS g kd a (nI i) = some b := by
  unfold e_aR
  rw [h.2, h.1, e_in_nI hi hl, nI_clamp (by omega)]
  exact hb
theorem aL_ok {kd a len : Nat} (h : ArA kd a len) : e_aL SS kd a = some (nI len) := by
  unfold e_aL
  rw [h.2, h.1]
  rfl
theorem rfTx {g : e_G} (hG : GG g) {t : Nat} (ht : t < 6) : e_aR SS g 2 1 (nI t) = some (7 + 5 * t) := by
  refine aR_ok arC.1 ht (by omega) ?_
  rw [hG _ _ (by omega) (by omega)]
  have key : ∀ t, t < 6 → R0 1 t = some (7 + 5 * t) := by decide +kernel
  exact key t ht
theorem rfShs {g : e_G} (hG : GG g) {s : Nat} (hs : s < 4) : e_aR SS g 4 2 (nI s) = some (37 + 2 * s) := by
  refine aR_ok arC.2.1 hs (by omega) ?_
  rw [hG _ _ (by omega) (by omega)]
  have key : ∀ s, s < 4 → R0 2 s = some (37 + 2 * s) := by decide +kernel
  exact key s hs
theorem GG.up {g : e_G} (hG : GG g) {f : Nat → Nat → Int32} : GG (f, g.2) := hG
theorem e_up_ne {α : Type} {f : Nat → Nat → α} {a k : Nat} {v : α} {b j : Nat} (h : b ≠ a ∨ j ≠ k) : e_up f a k v b j = f b j := by
  unfold e_up
  rw [if_neg]
  rintro ⟨h1, h2⟩
  rcases h with h | h
  · exact h h1
  · exact h h2
theorem e_up_eq {α : Type} {f : Nat → Nat → α} {a k : Nat} {v : α} : e_up f a k v a k = v := by
  unfold e_up
  rw [if_pos ⟨rfl, rfl⟩]
