/-! the reference reads a part, as the pure machine does: what it holds, what it puts -/
def r_hc (h : Nat) : Nat := if h = 0 then 0 else m_cd h
def r_open : List Nat → Nat
  | [] => 0
  | h :: S => r_open S + if h = 0 ∨ h = 2 ∨ h = 3 then 1 else 0
def RB (t : Nat) (f : Nat → Nat → Int32) (S : List Nat) (o : Nat) (out : List Emi) : Prop := f 76 9 = nI t ∧ f 76 24 = nI S.length ∧ f 76 25 = nI o ∧ f 76 26 = nI out.length ∧ (∀ j (h : j < S.length), f 90 (S.length - 1 - j) = nI (r_hc S[j])) ∧ (∀ h, h ∈ S → h ≤ 10 ∧ h ≠ 1) ∧ (∀ j (h : j < out.length), f 81 (200 * t + j) = m_enc out[j]) ∧ r_open S ≤ o ∧ o ≤ 5
/-- what stays where the reference puts and holds -/
def KV (t : Nat) (f f' : Nat → Nat → Int32) : Prop := (∀ b, b ≠ 76 → b ≠ 81 → b ≠ 90 → f' b = f b) ∧ (∀ k, k ≠ 24 → k ≠ 25 → k ≠ 26 → f' 76 k = f 76 k) ∧ ∀ i, (i < 200 * t ∨ 200 * t + 200 ≤ i) → f' 81 i = f 81 i
theorem KV.trans {t : Nat} {f f' f'' : Nat → Nat → Int32} (h : KV t f f') (k : KV t f' f'') : KV t f f'' := ⟨fun b h1 h2 h3 => (k.1 b h1 h2 h3).trans (h.1 b h1 h2 h3), fun j h1 h2 h3 => (k.2.1 j h1 h2 h3).trans (h.2.1 j h1 h2 h3), fun i hi => (k.2.2 i hi).trans (h.2.2 i hi)⟩
theorem KV.up {t : Nat} {f : Nat → Nat → Int32} {k : Nat} {v : Int32} (h : k = 24 ∨ k = 25 ∨ k = 26) : KV t f (e_up f 76 k v) := ⟨fun b h1 _ _ => e_up_row h1, fun j _ _ _ => e_up_ne (Or.inr (by omega)), fun i _ => by rw [e_up_row (by omega)]⟩
theorem r81_ {r : Nat → Nat → Option Nat} {f0 : Nat → Nat → Int32} (hG : GG (f0, r)) : ∀ f, e_gR SS (f, r) 11 76 7 = some 81 := fun f => (rf11 (g := (f, r)) hG).2.2.2.2.1
theorem r82_ {r : Nat → Nat → Option Nat} {f0 : Nat → Nat → Int32} (hG : GG (f0, r)) : ∀ f, e_gR SS (f, r) 11 76 8 = some 82 := fun f => (rf11 (g := (f, r)) hG).2.2.2.2.2.1
theorem r90_ {r : Nat → Nat → Option Nat} {f0 : Nat → Nat → Int32} (hG : GG (f0, r)) : ∀ f, e_gR SS (f, r) 11 76 23 = some 90 := fun f => (rf11 (g := (f, r)) hG).2.2.2.2.2.2.2.2.2.2.2.2.2.1
theorem rk_ok {h : Nat} (h1 : h ≤ 10) (h2 : h ≠ 1) (g : e_G) : f_X11_rank SS (nI (r_hc h)) g = some (nI (c_rk h), g) := by
  rcases (by omega : h = 0 ∨ h = 2 ∨ h = 3 ∨ h = 4 ∨ h = 5 ∨ h = 6 ∨ h = 7 ∨ h = 8 ∨ h = 9 ∨ h = 10) with rfl | rfl | rfl | rfl | rfl | rfl | rfl | rfl | rfl | rfl <;> rfl
theorem rb_puts {t : Nat} {r : Nat → Nat → Option Nat} {f0 f : Nat → Nat → Int32} (hG : GG (f0, r)) (ht : t < 6) {S : List Nat} {o : Nat} {out : List Emi} (h : RB t f S o out) (hl : out.length < 200) {q : Emi} {v : Int32} (hv : v = m_enc q) : ∃ f', f_X11_puts SS 76 v (f, r) = some (f', r) ∧ RB t f' S o (out ++ [q]) ∧ KV t f f' := by
  subst hv
  obtain ⟨h1, h2, h3, h4, h5, h6, h7, h8, h9⟩ := h
  have A81 : ArA 0 81 1200 := by unfold ArA; decide +kernel
  have k200 : (200 : Int32) = nI 200 := by decide +kernel
  refine ⟨e_up (e_up f 81 (200 * t + out.length) (m_enc q)) 76 26 (nI (out.length + 1)), ?_, ⟨?_, ?_, ?_, ?_, ?_, h6, ?_, h8, h9⟩, fun b h1 h2 h3 => by rw [e_up_row h1, e_up_row h2], fun k h1 h2 h3 => by rw [e_up_ne (Or.inr h3), e_up_row (by omega)], fun i hi => by rw [e_up_row (by omega), e_up_ne (Or.inr (by omega))]⟩
  · unfold f_X11_puts
    rw [if_pos ob11, r81_ hG, Option.bind_some, gI_ok ob11, Option.bind_some, gI_ok ob11, Option.bind_some, show (f, r).1 76 9 = nI t from h1, show (f, r).1 76 26 = nI out.length from h4, k200, show nI 200 * nI t = nI (200 * t) from (Int32.ofNat_mul 200 t).symm, nI_add, aS_ok A81 (by omega) (by omega), Option.bind_some, gI_ok ob11, Option.bind_some, sI_ok ob11, Option.bind_some]
    rw [show (e_up f 81 (200 * t + out.length) (m_enc q), r).1 76 26 = nI out.length by show e_up f 81 (200 * t + out.length) (m_enc q) 76 26 = nI out.length; rw [e_up_row (by omega)]; exact h4, nI_1]
  · rw [e_up_ne (Or.inr (by omega)), e_up_row (by omega)]; exact h1
  · rw [e_up_ne (Or.inr (by omega)), e_up_row (by omega)]; exact h2
  · rw [e_up_ne (Or.inr (by omega)), e_up_row (by omega)]; exact h3
  · rw [e_up_eq, List.length_append]; rfl
  · intro j hj
    rw [e_up_row (by omega), e_up_row (by omega)]
    exact h5 j hj
  · intro j hj
    rw [List.length_append] at hj
    have hj : j < out.length + 1 := hj
    rw [e_up_row (by omega)]
    by_cases y : j = out.length
    · subst y
      rw [e_up_eq]
      simp
    · rw [e_up_ne (Or.inr (by omega)), List.getElem_append_left (by omega)]
      exact h7 j (by omega)
theorem rb_unw {t : Nat} {r : Nat → Nat → Option Nat} {f0 : Nat → Nat → Int32} (hG : GG (f0, r)) (ht : t < 6) {R : Nat} (hR : 1 ≤ R) (hR7 : R ≤ 7) : ∀ (S : List Nat) o out f m, RB t f S o out → S.length + out.length ≤ 198 → S.length < m → ∃ f', L_X11_unwinds_0 m SS 76 (nI R) (f, r) = some (f', r) ∧ RB t f' (r_unw R S o out).1 (r_unw R S o out).2.1 (r_unw R S o out).2.2 ∧ KV t f f' ∧ (r_unw R S o out).1.length + (r_unw R S o out).2.2.length ≤ S.length + out.length := by
  have A90 : ArA 0 90 200 := by unfold ArA; decide +kernel
  intro S
  induction S with
  | nil =>
    intro o out f m h hl hm
    obtain ⟨m, rfl⟩ : ∃ q, m = q + 1 := ⟨m - 1, by omega⟩
    refine ⟨f, ?_, h, ⟨fun _ _ _ _ => rfl, fun _ _ _ _ => rfl, fun _ _ => rfl⟩, Nat.le_refl _⟩
    rw [L_X11_unwinds_0, gI_ok ob11, Option.bind_some, show (f, r).1 76 24 = nI 0 from h.2.1, if_pos (by rw [nI_0]; decide)]
  | cons k S ih =>
    intro o out f m h hl hm
    obtain ⟨m, rfl⟩ : ∃ q, m = q + 1 := ⟨m - 1, by omega⟩
    have hl : S.length + 1 + out.length ≤ 198 := hl
    have hm : S.length + 1 < m + 1 := hm
    obtain ⟨h1, h2, h3, h4, h5, h6, h7, h8, h9⟩ := h
    have h2 : f 76 24 = nI (S.length + 1) := h2
    have hk := h6 k (by simp)
    have top : f 90 S.length = nI (r_hc k) := by
      have := h5 0 (by simp)
      simpa using this
    rw [L_X11_unwinds_0, gI_ok ob11, Option.bind_some, show (f, r).1 76 24 = nI (S.length + 1) from h2, if_neg (show ¬ nI (S.length + 1) ≤ 0 by rw [← nI_0]; exact nI_ge (by omega) (by omega)), r90_ hG, Option.bind_some, Option.bind_some, nI_pred, aI_ok A90 (by omega) (by omega), Option.bind_some, show (f, r).1 90 S.length = nI (r_hc k) from top, rk_ok hk.1 hk.2, Option.bind_some, r_unw]
    have rk7 : c_rk k ≤ 7 := by
      unfold c_rk
      repeat' split
      all_goals omega
    by_cases y : c_rk k < R
    · rw [if_pos y, if_pos (show nI (c_rk k) < nI R from nI_lt y (by omega))]
      exact ⟨f, rfl, ⟨h1, h2, h3, h4, h5, h6, h7, h8, h9⟩, ⟨fun _ _ _ _ => rfl, fun _ _ _ _ => rfl, fun _ _ => rfl⟩, Nat.le_refl _⟩
    · have k0 : k ≠ 0 := fun e => by rw [e] at y; exact y (show 0 < R by omega)
      rw [if_neg y, if_neg (show ¬ nI (c_rk k) < nI R from nI_nlt (by omega) (by omega))]
      obtain ⟨F, hF⟩ : ∃ F, F = e_up f 76 24 (nI S.length) := ⟨_, rfl⟩
      have F24 : F 76 24 = nI S.length := by rw [hF, e_up_eq]
      have Fk : ∀ j, j ≠ 24 → F 76 j = f 76 j := fun j hj => by rw [hF, e_up_ne (Or.inr hj)]
      have Fr : ∀ b, b ≠ 76 → F b = f b := fun b hb => by rw [hF, e_up_row hb]
      have op : r_open (k :: S) = r_open S + if k = 0 ∨ k = 2 ∨ k = 3 then 1 else 0 := rfl
      have go : ∀ (c : Int32) (o' : Nat), nI o - c = nI o' → o' = (if k = 3 ∨ k = 2 then o - 1 else o) → r_open S ≤ o' → o' ≤ 5 → ∃ f', J_X11_unwinds_67 (L_X11_unwinds_0 m SS) SS 76 (nI R) (nI (r_hc k)) 76 (nI o) c (F, r) = some (f', r) ∧ RB t f' (r_unw R S (if k = 3 ∨ k = 2 then o - 1 else o) (out ++ [(k, 0)])).1 (r_unw R S (if k = 3 ∨ k = 2 then o - 1 else o) (out ++ [(k, 0)])).2.1 (r_unw R S (if k = 3 ∨ k = 2 then o - 1 else o) (out ++ [(k, 0)])).2.2 ∧ KV t f f' ∧ (r_unw R S (if k = 3 ∨ k = 2 then o - 1 else o) (out ++ [(k, 0)])).1.length + (r_unw R S (if k = 3 ∨ k = 2 then o - 1 else o) (out ++ [(k, 0)])).2.2.length ≤ (k :: S).length + out.length := by
        intro c o' e1 e2 e3 e4
        rw [← e2]
        have hB : RB t (e_up F 76 25 (nI o')) S o' out := ⟨by rw [e_up_ne (Or.inr (by omega)), Fk _ (by omega)]; exact h1, by rw [e_up_ne (Or.inr (by omega))]; exact F24, e_up_eq, by rw [e_up_ne (Or.inr (by omega)), Fk _ (by omega)]; exact h4, fun j hj => by
          rw [e_up_row (by omega), Fr _ (by omega)]
          have := h5 (j + 1) (by simp; omega)
          simp only [List.length_cons, List.getElem_cons_succ] at this
          rw [show S.length + 1 - 1 - (j + 1) = S.length - 1 - j by omega] at this
          exact this, fun q hq => h6 q (by simp [hq]), fun j hj => by rw [e_up_row (by omega), Fr _ (by omega)]; exact h7 j hj, e3, e4⟩
        have ve : nI (r_hc k) = m_enc (k, 0) := by
          unfold r_hc m_enc
          rw [if_neg k0, if_neg k0, if_neg hk.2]
        obtain ⟨f1, a1, a2, a3⟩ := rb_puts hG ht hB (by omega) ve
        obtain ⟨f2, b1, b2, b3, b4⟩ := ih o' (out ++ [(k, 0)]) f1 m a2 (by simp; omega) (by omega)
        refine ⟨f2, ?_, b2, ((KV.trans (by rw [hF]; exact KV.up (Or.inl rfl)) (KV.up (Or.inr (Or.inl rfl)))).trans a3).trans b3, by simp at b4 ⊢; omega⟩
        unfold J_X11_unwinds_67
        rw [sI_ok ob11, Option.bind_some, e1, a1, Option.bind_some]
        exact b1
      rw [gI_ok ob11, Option.bind_some, sI_ok ob11, Option.bind_some, show ((nI (c_rk k), (f, r)).2).1 76 24 = nI (S.length + 1) from h2, nI_pred]
      show ∃ f', ((e_gR SS (e_up f 76 24 (nI S.length), r) 11 76 23).bind _) = _ ∧ _
      rw [← hF, r90_ hG, Option.bind_some, gI_ok ob11, Option.bind_some, show (F, r).1 76 24 = nI S.length from F24, aI_ok A90 (by omega) (by omega), Option.bind_some, show (F, r).1 90 S.length = nI (r_hc k) by show F _ _ = _; rw [Fr _ (by omega)]; exact top, gI_ok ob11, Option.bind_some, show (F, r).1 76 25 = nI o by show F _ _ = _; rw [Fk _ (by omega)]; exact h3]
      have k13 : (13 : Int32) = nI 13 := by decide +kernel
      have k19 : (19 : Int32) = nI 19 := by decide +kernel
      have hcs : ∀ k, k < 11 → k ≠ 1 → r_hc k < 20 ∧ (r_hc k = 13 ↔ k = 3) ∧ (r_hc k = 19 ↔ k = 2) := by decide
      obtain ⟨c1, c2, c3⟩ := hcs k (by omega) hk.2
      by_cases y3 : k = 3
      · rw [if_pos (show nI (r_hc k) = 13 by rw [c2.mpr y3, k13])]
        have : r_open (k :: S) = r_open S + 1 := by rw [op, if_pos (by omega)]
        exact go 1 (o - 1) (by rw [show o = (o - 1) + 1 by omega, nI_pred]; congr 1) (by rw [if_pos (Or.inl y3)]) (by omega) (by omega)
      · rw [if_neg (show ¬ nI (r_hc k) = 13 from fun e => y3 (c2.mp (nI_inj (by omega) (by omega) (e.trans k13))))]
        by_cases y2 : k = 2
        · rw [if_pos (show nI (r_hc k) = 19 by rw [c3.mpr y2, k19])]
          have : r_open (k :: S) = r_open S + 1 := by rw [op, if_pos (by omega)]
          exact go 1 (o - 1) (by rw [show o = (o - 1) + 1 by omega, nI_pred]; congr 1) (by rw [if_pos (Or.inr y2)]) (by omega) (by omega)
        · rw [if_neg (show ¬ nI (r_hc k) = 19 from fun e => y2 (c3.mp (nI_inj (by omega) (by omega) (e.trans k19))))]
          have : r_open (k :: S) = r_open S := by rw [op, if_neg (by omega)]; rfl
          exact go 0 o (by rw [Int32.sub_zero]) (by rw [if_neg (by omega)]) (by omega) h9
theorem rb_unwinds {t : Nat} {r : Nat → Nat → Option Nat} {f0 : Nat → Nat → Int32} (hG : GG (f0, r)) (ht : t < 6) {R : Nat} (hR : 1 ≤ R) (hR7 : R ≤ 7) {S : List Nat} {o : Nat} {out : List Emi} {f : Nat → Nat → Int32} (h : RB t f S o out) (hl : S.length + out.length ≤ 198) {c : Int32} (hc : c = nI R) : ∃ f', f_X11_unwinds SS 76 c (f, r) = some (f', r) ∧ RB t f' (r_unw R S o out).1 (r_unw R S o out).2.1 (r_unw R S o out).2.2 ∧ KV t f f' ∧ (r_unw R S o out).1.length + (r_unw R S o out).2.2.length ≤ S.length + out.length := by
  subst hc
  unfold f_X11_unwinds
  rw [if_pos ob11]
  exact rb_unw hG ht hR hR7 S o out f 50000 h hl (by omega)
/-- one more is held -/
theorem rb_holds {t : Nat} {r : Nat → Nat → Option Nat} {f0 f : Nat → Nat → Int32} (hG : GG (f0, r)) {S : List Nat} {o o' : Nat} {out : List Emi} (h : RB t f S o out) (hl : S.length + out.length ≤ 198) {k : Nat} (k1 : k ≤ 10) (k2 : k ≠ 1) {F : Nat → Nat → Int32} (hF : F = f ∧ o' = o ∨ F = e_up f 76 25 (nI o') ∧ o' = o + 1) (ho : r_open (k :: S) ≤ o') (ho5 : o' ≤ 5) {c : Int32} (hc : c = nI (r_hc k)) : ∃ f', f_X11_holds SS 76 c (F, r) = some (f', r) ∧ RB t f' (k :: S) o' out ∧ KV t f f' := by
  subst hc
  have A90 : ArA 0 90 200 := by unfold ArA; decide +kernel
  obtain ⟨h1, h2, h3, h4, h5, h6, h7, h8, h9⟩ := h
  have F25 : F 76 25 = nI o' := by
    rcases hF with ⟨e, e'⟩ | ⟨e, e'⟩
    · rw [e, e']; exact h3
    · rw [e, e_up_eq]
  have Fk : ∀ j, j ≠ 25 → F 76 j = f 76 j := by
    intro j hj
    rcases hF with ⟨e, e'⟩ | ⟨e, e'⟩
    · rw [e]
    · rw [e, e_up_ne (Or.inr hj)]
  have Fr : ∀ b, b ≠ 76 → F b = f b := by
    intro b hb
    rcases hF with ⟨e, e'⟩ | ⟨e, e'⟩
    · rw [e]
    · rw [e, e_up_row hb]
  have F24 : F 76 24 = nI S.length := (Fk _ (by omega)).trans h2
  refine ⟨e_up (e_up F 90 S.length (nI (r_hc k))) 76 24 (nI (S.length + 1)), ?_, ⟨?_, ?_, ?_, ?_, ?_, ?_, ?_, ho, ho5⟩, ?_, ?_, ?_⟩
  · unfold f_X11_holds
    rw [if_pos ob11, r90_ hG, Option.bind_some, gI_ok ob11, Option.bind_some, show (F, r).1 76 24 = nI S.length from F24, aS_ok A90 (by omega) (by omega), Option.bind_some, gI_ok ob11, Option.bind_some, sI_ok ob11, Option.bind_some]
    rw [show (e_up F 90 S.length (nI (r_hc k)), r).1 76 24 = nI S.length by show e_up F 90 S.length (nI (r_hc k)) 76 24 = nI S.length; rw [e_up_row (by omega)]; exact F24, nI_1]
  · rw [e_up_ne (Or.inr (by omega)), e_up_row (by omega), Fk _ (by omega)]; exact h1
  · rw [e_up_eq]; rfl
  · rw [e_up_ne (Or.inr (by omega)), e_up_row (by omega)]; exact F25
  · rw [e_up_ne (Or.inr (by omega)), e_up_row (by omega), Fk _ (by omega)]; exact h4
  · intro j hj
    have hj : j < S.length + 1 := hj
    rw [e_up_row (by omega)]
    show e_up F 90 S.length (nI (r_hc k)) 90 (S.length + 1 - 1 - j) = _
    by_cases y : j = 0
    · subst y
      rw [show S.length + 1 - 1 - 0 = S.length by omega, e_up_eq]
      rfl
    · obtain ⟨i, rfl⟩ : ∃ i, j = i + 1 := ⟨j - 1, by omega⟩
      rw [e_up_ne (Or.inr (by omega)), Fr _ (by omega), show S.length + 1 - 1 - (i + 1) = S.length - 1 - i by omega]
      exact h5 i (by omega)
  · intro q hq
    rcases List.mem_cons.mp hq with e | e
    · rw [e]; exact ⟨k1, k2⟩
    · exact h6 q e
  · intro j hj
    rw [e_up_row (by omega), e_up_row (by omega), Fr _ (by omega)]
    exact h7 j hj
  · intro b q1 q2 q3
    rw [e_up_row q1, e_up_row q3, Fr _ q1]
  · intro j q1 q2 q3
    rw [e_up_ne (Or.inr q1), e_up_row (by omega), Fk _ q2]
  · intro i _
    rw [e_up_row (by omega), e_up_row (by omega), Fr _ (by omega)]
