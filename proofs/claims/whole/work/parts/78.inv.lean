/-! what holds between any two calls -/
/-- the image, of the class and of the reference -/
def IM (f : Nat → Nat → Int32) (r : Nat → Nat → Option Nat) (n tc : Nat) (tk : Nat → Nat → List (Nat × Int32)) (s : Nat → Nat → Int32) : Prop := ∃ ni si, ni ≤ n ∧ SQ f r 68 ni tk si ∧ w_wf ni si ∧ (∀ p, p < ni → si 4 p = s 4 p ∧ si 5 p = s 5 p) ∧ (∃ t, t < tc ∧ si 0 8 = nI t) ∧ (∃ d, d ≤ 999 ∧ si 0 7 = nI d) ∧ f 84 0 = nI ni ∧ f 84 1 = si 0 7 ∧ f 84 2 = si 0 8 ∧ ∀ p, p < ni → f 83 (4 * p) = si 1 p ∧ f 83 (4 * p + 1) = si 2 p ∧ f 83 (4 * p + 2) = si 3 p ∧ f 83 (4 * p + 3) = si 6 p
/-- the words that the reference knows, as they lie in its row -/
def c_wt (k : Nat) : Nat := [108, 101, 97, 110, 115, 32, 32, 32, 104, 111, 108, 100, 115, 32, 32, 32, 109, 105, 110, 100, 115, 32, 32, 32, 108, 101, 97, 110, 32, 32, 32, 32, 97, 99, 114, 111, 115, 115, 32, 32, 98, 101, 115, 105, 100, 101, 32, 32, 100, 97, 121, 32, 32, 32, 32, 32, 108, 111, 111, 107, 101, 114, 115, 32, 109, 111, 114, 101, 32, 32, 32, 32, 111, 114, 32, 32, 32, 32, 32, 32, 97, 110, 100, 32, 32, 32, 32, 32, 110, 111, 116, 32, 32, 32, 32, 32].getD k 0
/-- all but the streets -/
def RE (f : Nat → Nat → Int32) (r : Nat → Nat → Option Nat) (n tc tz : Nat) (tk : Nat → Nat → List (Nat × Int32)) (s : Nat → Nat → Int32) : Prop :=
  (f 0 9 = nI tc ∧ f 76 9 = nI tc ∧ 1 ≤ tc ∧ tc ≤ 6) ∧ (f 0 10 = nI tz ∧ f 76 6 = nI tz ∧ tz ≤ 160 ∧ (∀ k, k < tz → ∃ b, b < 256 ∧ f 4 k = nI b ∧ f 80 k = nI b) ∧ ∀ k, k < 96 → f 89 k = nI (c_wt k)) ∧
  (∀ t, t < tc → TX (f, r) t (tk t) ∧ RX (f, r) t (tk t) ∧ t_ok (tk t)) ∧ (∃ t, t < tc ∧ s 0 8 = nI t) ∧ (∃ d, d ≤ 999 ∧ s 0 7 = nI d) ∧
  (∀ i, i < 4 → ∃ so z, SH f i so z) ∧ ((f 0 11 = 0 ∧ f 76 11 = 0) ∨ (f 0 11 = 1 ∧ f 76 11 = 1 ∧ IM f r n tc tk s))
def IN (f : Nat → Nat → Int32) (r : Nat → Nat → Option Nat) (n tc tz : Nat) (tk : Nat → Nat → List (Nat × Int32)) (s : Nat → Nat → Int32) : Prop := SQ f r 52 n tk s ∧ MW f r n tk s ∧ RE f r n tc tz tk s
def Inv_ (g : e_G) : Prop := ∃ n tc tz tk s, IN g.1 g.2 n tc tz tk s
/-- what stays, where only streets are touched -/
def FR (f f' : Nat → Nat → Int32) : Prop := (∀ b, NS b → (b < 45 ∨ (68 ≤ b ∧ b < 75) ∨ (80 ≤ b ∧ b < 91)) → f' b = f b) ∧ ∀ k, (k = 6 ∨ k = 9 ∨ k = 11) → f' 76 k = f 76 k
theorem FR.rfl' {f : Nat → Nat → Int32} : FR f f := ⟨fun _ _ _ => rfl, fun _ _ => rfl⟩
theorem FR.trans {f f' f'' : Nat → Nat → Int32} (h : FR f f') (k : FR f' f'') : FR f f'' := ⟨fun b h1 h2 => (k.1 b h1 h2).trans (h.1 b h1 h2), fun j hj => (k.2 j hj).trans (h.2 j hj)⟩
theorem FR.kt {f f' : Nat → Nat → Int32} (h : KT f f') : FR f f' := ⟨fun b h1 h2 => h b h1 (by omega), fun j _ => by rw [h 76 (by unfold NS; omega) (by omega)]⟩
theorem FR.km {f f' : Nat → Nat → Int32} (h : KM f f') : FR f f' := ⟨fun b h1 h2 => h.1 b (by omega) (by omega) (by omega), fun j _ => h.2.2 j (by omega)⟩
theorem FR.up {f : Nat → Nat → Int32} {a k : Nat} {v : Int32} (ha : (45 ≤ a ∧ a < 68) ∨ (77 ≤ a ∧ a < 80) ∨ 91 ≤ a) : FR f (e_up f a k v) := ⟨fun b _ h2 => e_up_row (by omega), fun j _ => by rw [e_up_row (by omega)]⟩
theorem FR.up76 {f : Nat → Nat → Int32} {k : Nat} {v : Int32} (hk : k ≠ 6 ∧ k ≠ 9 ∧ k ≠ 11) : FR f (e_up f 76 k v) := ⟨fun b _ h2 => e_up_row (by omega), fun j hj => by rw [e_up_ne (Or.inr (by omega))]⟩
theorem TX.of {f f' : Nat → Nat → Int32} {r : Nat → Nat → Option Nat} {t : Nat} {tk : Nat → List (Nat × Int32)} (h : TX (f, r) t tk) (e1 : f' (8 + 5 * t) = f (8 + 5 * t)) (e2 : f' (9 + 5 * t) = f (9 + 5 * t)) (e3 : f' (11 + 5 * t) = f (11 + 5 * t)) : TX (f', r) t tk := by
  refine ⟨h.1, fun p hp => ?_, fun p hp j hj => ?_⟩
  · show f' _ _ = _
    rw [e3]
    exact h.2.1 p hp
  · show f' _ _ = _ ∧ f' _ _ = _ ∧ _
    rw [e1, e2]
    exact h.2.2 p hp j hj
/-- a street whose rows, and whose text, are as they were -/
theorem SQ.of {f f' : Nat → Nat → Int32} {r : Nat → Nat → Option Nat} {o n : Nat} {tk : Nat → Nat → List (Nat × Int32)} {s : Nat → Nat → Int32} (h : SQ f r o n tk s) (k : ∀ j, j < 7 → f' (o + j) = f (o + j)) (kt : ∀ b, b < 45 → NS b → f' b = f b) : SQ f' r o n tk s := by
  obtain ⟨s0, h1, h2⟩ := h
  have n0 : f' o = f o := k 0 (by omega)
  refine ⟨s0, ⟨⟨h1.1.1, h1.1.2.1, ?_, h1.1.2.2.2⟩, ?_, fun j hj => (k j hj).trans (h1.2.2.1 j hj), h1.2.2.2⟩, h2⟩
  · show f' o 6 = _
    rw [n0]
    exact h1.1.2.2.1
  · intro t ht e
    have := h1.2.1 t ht ((congrFun n0 8).symm.trans e)
    exact ⟨this.1.of (kt _ (by omega) (by unfold NS; omega)) (kt _ (by omega) (by unfold NS; omega)) (kt _ (by omega) (by unfold NS; omega)), this.2⟩
theorem SH.of {f f' : Nat → Nat → Int32} {i : Nat} {so : Int32} {z : Nat} (h : SH f i so z) (hi : i < 4) (k : FR f f') : SH f' i so z := by
  unfold SH
  rw [k.1 (37 + 2 * i) (by unfold NS; omega) (by omega), k.1 85 (by unfold NS; omega) (by omega), k.1 86 (by unfold NS; omega) (by omega), k.1 (38 + 2 * i) (by unfold NS; omega) (by omega), k.1 87 (by unfold NS; omega) (by omega)]
  exact h
theorem IM.of {f f' : Nat → Nat → Int32} {r : Nat → Nat → Option Nat} {n n' tc tc' : Nat} {tk : Nat → Nat → List (Nat × Int32)} {s s' : Nat → Nat → Int32} (h : IM f r n tc tk s) (k : FR f f') (hn : n ≤ n') (ht : tc ≤ tc') (hs : ∀ p, p < n → s' 4 p = s 4 p ∧ s' 5 p = s 5 p) : IM f' r n' tc' tk s' := by
  obtain ⟨ni, si, h1, h2, h3, h4, ⟨t, t1, t2⟩, h6, h7, h8, h9, h10⟩ := h
  have e84 : f' 84 = f 84 := k.1 84 (by unfold NS; omega) (by omega)
  have e83 : f' 83 = f 83 := k.1 83 (by unfold NS; omega) (by omega)
  refine ⟨ni, si, by omega, h2.of (fun j hj => k.1 _ (by unfold NS; omega) (by omega)) (fun b hb hb2 => k.1 b hb2 (by omega)), h3, fun p hp => ⟨(h4 p hp).1.trans (hs p (by omega)).1.symm, (h4 p hp).2.trans (hs p (by omega)).2.symm⟩, ⟨t, by omega, t2⟩, h6, ?_, ?_, ?_, ?_⟩
  · rw [e84]; exact h7
  · rw [e84]; exact h8
  · rw [e84]; exact h9
  · rw [e83]; exact h10
theorem RE.of {f f' : Nat → Nat → Int32} {r : Nat → Nat → Option Nat} {n tc tz : Nat} {tk : Nat → Nat → List (Nat × Int32)} {s s' : Nat → Nat → Int32} (h : RE f r n tc tz tk s) (k : FR f f') (hl : ∃ t, t < tc ∧ s' 0 8 = nI t) (hd : ∃ d, d ≤ 999 ∧ s' 0 7 = nI d) (hs : ∀ p, p < n → s' 4 p = s 4 p ∧ s' 5 p = s 5 p) : RE f' r n tc tz tk s' := by
  obtain ⟨⟨a1, a2, a3⟩, ⟨b1, b2, b3, b4⟩, h3, h4, h5, h6, h7⟩ := h
  have e0 : f' 0 = f 0 := k.1 0 (by unfold NS; omega) (by omega)
  have e4 : f' 4 = f 4 := k.1 4 (by unfold NS; omega) (by omega)
  have e80 : f' 80 = f 80 := k.1 80 (by unfold NS; omega) (by omega)
  have e89 : f' 89 = f 89 := k.1 89 (by unfold NS; omega) (by omega)
  have e81 : f' 81 = f 81 := k.1 81 (by unfold NS; omega) (by omega)
  have e82 : f' 82 = f 82 := k.1 82 (by unfold NS; omega) (by omega)
  have q6 := k.2 6 (by omega)
  have q9 := k.2 9 (by omega)
  have q11 := k.2 11 (by omega)
  refine ⟨⟨by rw [e0]; exact a1, q9.trans a2, a3⟩, ⟨by rw [e0]; exact b1, q6.trans b2, b3, by rw [e4, e80, e89]; exact b4⟩, fun t ht => ?_, hl, hd, fun i hi => ?_, ?_⟩
  · obtain ⟨c1, c2, c3⟩ := h3 t ht
    exact ⟨c1.of (k.1 _ (by unfold NS; omega) (by omega)) (k.1 _ (by unfold NS; omega) (by omega)) (k.1 _ (by unfold NS; omega) (by omega)), c2.of e81 e82, c3⟩
  · obtain ⟨so, z, c⟩ := h6 i hi
    exact ⟨so, z, c.of hi k⟩
  · rw [e0, q11]
    rcases h7 with h7 | ⟨h7, h8, h9⟩
    · exact Or.inl h7
    · exact Or.inr ⟨h7, h8, h9.of k (Nat.le_refl _) (Nat.le_refl _) hs⟩
theorem RE.fr {f f' : Nat → Nat → Int32} {r : Nat → Nat → Option Nat} {n tc tz : Nat} {tk : Nat → Nat → List (Nat × Int32)} {s : Nat → Nat → Int32} (h : RE f r n tc tz tk s) (k : FR f f') : RE f' r n tc tz tk s := h.of k h.2.2.2.1 h.2.2.2.2.1 (fun _ _ => ⟨rfl, rfl⟩)
theorem IN.kt {f f' : Nat → Nat → Int32} {r : Nat → Nat → Option Nat} {n tc tz : Nat} {tk : Nat → Nat → List (Nat × Int32)} {s : Nat → Nat → Int32} (h : IN f r n tc tz tk s) (k : KT f f') : IN f' r n tc tz tk s := by
  have e : ∀ b, 76 ≤ b → f' b = f b := fun b hb => k b (by unfold NS; omega) (by omega)
  exact ⟨h.1.kt (Or.inl rfl) k, h.2.1.of (by rw [e 76 (by omega)]) (by rw [e 76 (by omega)]) (by rw [e 76 (by omega)]) (e 77 (by omega)) (e 78 (by omega)) (fun j _ => by rw [e 79 (by omega)]) (e 81 (by omega)) (e 82 (by omega)), h.2.2.fr (FR.kt k)⟩
theorem IN.km {f f' : Nat → Nat → Int32} {r : Nat → Nat → Option Nat} {n tc tz : Nat} {tk : Nat → Nat → List (Nat × Int32)} {s : Nat → Nat → Int32} (h : IN f r n tc tz tk s) (k : KM f f') : IN f' r n tc tz tk s :=
  ⟨h.1.of (fun j hj => k.1 _ (by omega) (by omega) (by omega)) (fun b hb _ => k.1 b (by omega) (by omega) (by omega)), h.2.1.km k, h.2.2.fr (FR.km k)⟩
/-- a call that asks: both answer the same word, and all is as it was -/
theorem ask_ {α : Type} {A B : e_G → Option (α × e_G)} {f : Nat → Nat → Int32} {r : Nat → Nat → Option Nat} {n tc tz : Nat} {tk : Nat → Nat → List (Nat × Int32)} {s : Nat → Nat → Int32} (h : IN f r n tc tz tk s) (w : α) (hA : ∃ f1, A (f, r) = some (w, (f1, r)) ∧ KT f f1) (hB : ∀ f1, IN f1 r n tc tz tk s → ∃ f2, B (f1, r) = some (w, (f2, r)) ∧ KM f1 f2) : ∃ (v : α) (g1 g2 : e_G), A (f, r) = some (v, g1) ∧ B g1 = some (v, g2) ∧ Inv_ g2 := by
  obtain ⟨f1, a1, a2⟩ := hA
  have h1 := h.kt a2
  obtain ⟨f2, b1, b2⟩ := hB f1 h1
  exact ⟨w, (f1, r), (f2, r), a1, b1, n, tc, tz, tk, s, h1.km b2⟩
/-- both answer at once -/
theorem ask0 {α : Type} {A B : e_G → Option (α × e_G)} {f : Nat → Nat → Int32} {r : Nat → Nat → Option Nat} {n tc tz : Nat} {tk : Nat → Nat → List (Nat × Int32)} {s : Nat → Nat → Int32} (h : IN f r n tc tz tk s) (w : α) (hA : A (f, r) = some (w, (f, r))) (hB : B (f, r) = some (w, (f, r))) : ∃ (v : α) (g1 g2 : e_G), A (f, r) = some (v, g1) ∧ B g1 = some (v, g2) ∧ Inv_ g2 := ⟨w, _, _, hA, hB, n, tc, tz, tk, s, h⟩
/-- a call that does: the class first, then the reference -/
theorem do_ {α : Type} {A B : e_G → Option (α × e_G)} {f : Nat → Nat → Int32} {r : Nat → Nat → Option Nat} (w : α) {f1 f2 : Nat → Nat → Int32} {n tc tz : Nat} {tk : Nat → Nat → List (Nat × Int32)} {s : Nat → Nat → Int32} (hA : A (f, r) = some (w, (f1, r))) (hB : B (f1, r) = some (w, (f2, r))) (h : IN f2 r n tc tz tk s) : ∃ (v : α) (g1 g2 : e_G), A (f, r) = some (v, g1) ∧ B g1 = some (v, g2) ∧ Inv_ g2 := ⟨w, _, _, hA, hB, n, tc, tz, tk, s, h⟩
