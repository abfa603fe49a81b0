/-- days pass -/
def w_days (tk : Nat → Nat → List (Nat × Int32)) (n d : Nat) (s : Nat → Nat → Int32) : Nat → Nat → Int32 := itF (σ := Nat → Nat → Int32) (fun _ s => (w_day tk n s).2) d 0 s
/-- a street becomes as another -/
def w_bec (s t : Nat → Nat → Int32) (i : Nat) : Nat → Nat → Int32 := fun j k => if j = 0 then (if k = 6 ∨ k = 7 ∨ k = 8 then t 0 k else s 0 k) else if k < i then t j k else s j k
theorem cs_bec {g : e_G} {o q n : Nat} (hG : GG g) (hS : IsS o) (hQ : IsS q) (hne : o ≠ q) (hn : g.1 q 6 = nI n) (h6 : n ≤ 6) (hb : ∀ p, p < n → g.1 (q + 6) p = 0 ∨ g.1 (q + 6) p = 1) :
    ∃ f', f_X7_become SS o q g = some (f', g.2) ∧ (∀ b, b < o ∨ o + 7 ≤ b → f' b = g.1 b) ∧ ∀ j, j < 7 → f' (o + j) = w_bec (fun j => g.1 (o + j)) (fun j => g.1 (q + j)) n j := by
  have far : o + 8 ≤ q ∨ q + 8 ≤ o := by
    rcases hS with rfl | rfl | rfl <;> rcases hQ with rfl | rfl | rfl <;> omega
  have GF : ∀ f : Nat → Nat → Int32, GG (f, g.2) := fun _ => hG
  have so := fun f => rfS (GF f) hS
  have sq := fun f => rfS (GF f) hQ
  have ao := arS hS
  have aq := arS hQ
  have nar : ∀ v : Int32, v = 0 ∨ v = 1 → vp_nar .boolean v = v := by
    intro v hv
    rcases hv with rfl | rfl <;> decide +kernel
  have ob1 := obS hS
  have ob2 := obS hQ
  unfold f_X7_become
  rw [if_pos ob1]
  obtain ⟨F, hF⟩ : ∃ F, F = e_up (e_up (e_up g.1 o 6 (g.1 q 6)) o 7 (g.1 q 7)) o 8 (g.1 q 8) := ⟨_, rfl⟩
  have Fr : ∀ b, b ≠ o → F b = g.1 b := fun b hb => by rw [hF, e_up_row hb, e_up_row hb, e_up_row hb]
  have F0 : ∀ k, F o k = if k = 6 ∨ k = 7 ∨ k = 8 then g.1 q k else g.1 o k := by
    intro k
    rw [hF, e_up_at, e_up_at, e_up_at]
    by_cases a8 : k = 8
    · subst a8; simp
    · by_cases a7 : k = 7
      · subst a7; simp
      · by_cases a6 : k = 6
        · subst a6; simp
        · simp [a6, a7, a8]
  have key := loopR (L := fun m i (f : Nat → Nat → Int32) => L_X7_become_26 m SS o q i (f, g.2)) (n := n)
    (I := fun i f => (∀ b, b < o ∨ o + 7 ≤ b → f b = g.1 b) ∧ ∀ j, j < 7 → f (o + j) = w_bec (fun j => g.1 (o + j)) (fun j => g.1 (q + j)) i j)
    (P := fun r => ∃ f', r = (f', g.2) ∧ (∀ b, b < o ∨ o + 7 ≤ b → f' b = g.1 b) ∧ ∀ j, j < 7 → f' (o + j) = w_bec (fun j => g.1 (o + j)) (fun j => g.1 (q + j)) n j)
    (fun m f hI => by
      refine ⟨(f, g.2), ?_, f, rfl, hI⟩
      show L_X7_become_26 (m + 1) SS o q (nI n) (f, g.2) = _
      have hn' : f o 6 = nI n := by
        rw [show f o = _ from hI.2 0 (by omega)]
        unfold w_bec
        rw [if_pos rfl, if_pos (Or.inl rfl)]
        exact hn
      rw [L_X7_become_26]
      simp only [gI_ok ob1, Option.bind_some, hn']
      rw [if_pos (nI_le (Nat.le_refl n) (by omega))])
    (fun m i f hi hI => by
      have hn' : f o 6 = nI n := by
        rw [show f o = _ from hI.2 0 (by omega)]
        unfold w_bec
        rw [if_pos rfl, if_pos (Or.inl rfl)]
        exact hn
      have up : ∀ a b, a < 7 → b < 7 → ∀ (f : Nat → Nat → Int32) (k : Nat) (v : Int32), e_up f (o + a) k v (q + b) = f (q + b) := fun a b ha hb f k v => e_up_row (by omega)
      have R0 : ∀ (f : Nat → Nat → Int32) (b : Nat), ArA 0 b 6 → e_aI SS (f, g.2) 0 b (nI i) = some (f b i) := fun f b ha => aI_ok ha (by omega) (by omega)
      have R1 : ∀ (f : Nat → Nat → Int32) (b : Nat), ArA 1 b 6 → e_aI SS (f, g.2) 1 b (nI i) = some (f b i) := fun f b ha => aI_ok ha (by omega) (by omega)
      have W0 : ∀ (f : Nat → Nat → Int32) (b : Nat) (v : Int32), ArA 0 b 6 → e_aS SS (f, g.2) 0 b (nI i) v = some (e_up f b i v, g.2) := fun f b v ha => aS_ok ha (by omega) (by omega)
      have W1 : ∀ (f : Nat → Nat → Int32) (b : Nat) (v : Int32), ArA 1 b 6 → e_aS SS (f, g.2) 1 b (nI i) v = some (e_up f b i (vp_nar .boolean v), g.2) := fun f b v ha => aSz_ok ha (by omega) (by omega)
      have fq : ∀ b, b < 7 → f (q + b) = g.1 (q + b) := fun b hb => hI.1 _ (by omega)
      have nq : vp_nar .boolean (g.1 (q + 6) i) = g.1 (q + 6) i := nar _ (hb i hi)
      refine ⟨e_up (e_up (e_up (e_up (e_up (e_up f (o + 1) i (g.1 (q + 1) i)) (o + 2) i (g.1 (q + 2) i)) (o + 3) i (g.1 (q + 3) i)) (o + 4) i (g.1 (q + 4) i)) (o + 5) i (g.1 (q + 5) i)) (o + 6) i (g.1 (q + 6) i), ?_, ?_, ?_⟩
      · show L_X7_become_26 (m + 1) SS o q (nI i) (f, g.2) = _
        rw [L_X7_become_26]
        simp only [gI_ok ob1, Option.bind_some, hn']
        rw [if_neg (nI_ge hi (by omega))]
        simp only [so, sq, Option.bind_some, R0 _ _ aq.1, R0 _ _ aq.2.1, R0 _ _ aq.2.2.1, R0 _ _ aq.2.2.2.1, R0 _ _ aq.2.2.2.2.1, R1 _ _ aq.2.2.2.2.2.1, W0 _ _ _ ao.1, W0 _ _ _ ao.2.1, W0 _ _ _ ao.2.2.1, W0 _ _ _ ao.2.2.2.1, W0 _ _ _ ao.2.2.2.2.1, W1 _ _ _ ao.2.2.2.2.2.1, up 1 2 (by omega) (by omega), up 1 3 (by omega) (by omega), up 1 4 (by omega) (by omega), up 1 5 (by omega) (by omega), up 1 6 (by omega) (by omega), up 2 3 (by omega) (by omega), up 2 4 (by omega) (by omega), up 2 5 (by omega) (by omega), up 2 6 (by omega) (by omega), up 3 4 (by omega) (by omega), up 3 5 (by omega) (by omega), up 3 6 (by omega) (by omega), up 4 5 (by omega) (by omega), up 4 6 (by omega) (by omega), up 5 6 (by omega) (by omega), fq 1 (by omega), fq 2 (by omega), fq 3 (by omega), fq 4 (by omega), fq 5 (by omega), fq 6 (by omega), nq, nI_1]
      · intro b hb
        rw [e_up_row (by omega), e_up_row (by omega), e_up_row (by omega), e_up_row (by omega), e_up_row (by omega), e_up_row (by omega)]
        exact hI.1 b hb
      · intro j hj
        by_cases j0 : j = 0
        · subst j0
          rw [e_up_row (by omega), e_up_row (by omega), e_up_row (by omega), e_up_row (by omega), e_up_row (by omega), e_up_row (by omega), hI.2 0 (by omega)]
          funext k
          unfold w_bec
          rw [if_pos rfl, if_pos rfl]
        · have e : ∀ (k : Nat), w_bec (fun j => g.1 (o + j)) (fun j => g.1 (q + j)) (i + 1) j k = if k = i then g.1 (q + j) i else w_bec (fun j => g.1 (o + j)) (fun j => g.1 (q + j)) i j k := by
            intro k
            unfold w_bec
            rw [if_neg j0, if_neg j0]
            by_cases k1 : k = i
            · subst k1
              rw [if_pos (by omega), if_pos rfl]
            · rw [if_neg k1]
              by_cases k2 : k < i
              · rw [if_pos k2, if_pos (by omega)]
              · rw [if_neg k2, if_neg (by omega)]
          funext k
          rw [e k, ← hI.2 j hj]
          match j, hj, j0 with
          | 1, _, _ => rw [e_up_row (f := _) (a := o + 6) (by omega), e_up_row (f := _) (a := o + 5) (by omega), e_up_row (f := _) (a := o + 4) (by omega), e_up_row (f := _) (a := o + 3) (by omega), e_up_row (f := _) (a := o + 2) (by omega), e_up_at]
          | 2, _, _ => rw [e_up_row (f := _) (a := o + 6) (by omega), e_up_row (f := _) (a := o + 5) (by omega), e_up_row (f := _) (a := o + 4) (by omega), e_up_row (f := _) (a := o + 3) (by omega), e_up_at, e_up_row (f := _) (a := o + 1) (by omega)]
          | 3, _, _ => rw [e_up_row (f := _) (a := o + 6) (by omega), e_up_row (f := _) (a := o + 5) (by omega), e_up_row (f := _) (a := o + 4) (by omega), e_up_at, e_up_row (f := _) (a := o + 2) (by omega), e_up_row (f := _) (a := o + 1) (by omega)]
          | 4, _, _ => rw [e_up_row (f := _) (a := o + 6) (by omega), e_up_row (f := _) (a := o + 5) (by omega), e_up_at, e_up_row (f := _) (a := o + 3) (by omega), e_up_row (f := _) (a := o + 2) (by omega), e_up_row (f := _) (a := o + 1) (by omega)]
          | 5, _, _ => rw [e_up_row (f := _) (a := o + 6) (by omega), e_up_at, e_up_row (f := _) (a := o + 4) (by omega), e_up_row (f := _) (a := o + 3) (by omega), e_up_row (f := _) (a := o + 2) (by omega), e_up_row (f := _) (a := o + 1) (by omega)]
          | 6, _, _ => rw [e_up_at, e_up_row (f := _) (a := o + 5) (by omega), e_up_row (f := _) (a := o + 4) (by omega), e_up_row (f := _) (a := o + 3) (by omega), e_up_row (f := _) (a := o + 2) (by omega), e_up_row (f := _) (a := o + 1) (by omega)]
          | j + 7, hj, _ => omega)
    n 0 50000 F (by omega) (by omega) ⟨fun b hb => Fr b (by omega), fun j hj => by
      funext k
      unfold w_bec
      by_cases j0 : j = 0
      · subst j0
        rw [if_pos rfl]
        exact F0 k
      · rw [if_neg j0, if_neg (by omega), Fr _ (by omega)]⟩
  have h0 : nI 0 = (0 : Int32) := nI_0
  rw [h0] at key
  obtain ⟨r, k1, f', k3, k4⟩ := key
  refine ⟨f', ?_, k4⟩
  rw [k3] at k1
  simp only [gI_ok ob2, sI_ok ob1, Option.bind_some]
  rw [show e_up g.1 o 6 (g.1 q 6) q 7 = g.1 q 7 by rw [e_up_row (by omega)], show e_up (e_up g.1 o 6 (g.1 q 6)) o 7 (g.1 q 7) q 8 = g.1 q 8 by rw [e_up_row (by omega), e_up_row (by omega)], ← hF]
  exact k1
