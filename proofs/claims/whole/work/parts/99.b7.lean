/-! the reference reads a part, as the pure machine does -/
def KU (t : Nat) (f f' : Nat → Nat → Int32) : Prop := (∀ b, b ≠ 76 → b ≠ 81 → b ≠ 90 → f' b = f b) ∧ (∀ k, (k < 18 ∨ k = 22 ∨ k = 23 ∨ 27 ≤ k) → f' 76 k = f 76 k) ∧ ∀ i, (i < 200 * t ∨ 200 * t + 200 ≤ i) → f' 81 i = f 81 i
theorem KU.trans {t : Nat} {f f' f'' : Nat → Nat → Int32} (h : KU t f f') (k : KU t f' f'') : KU t f f'' := ⟨fun b h1 h2 h3 => (k.1 b h1 h2 h3).trans (h.1 b h1 h2 h3), fun j h1 => (k.2.1 j h1).trans (h.2.1 j h1), fun i hi => (k.2.2 i hi).trans (h.2.2 i hi)⟩
theorem KV.ku {t : Nat} {f f' : Nat → Nat → Int32} (h : KV t f f') : KU t f f' := ⟨h.1, fun k hk => h.2.1 k (by omega) (by omega) (by omega), h.2.2⟩
theorem KU.nd {t : Nat} {f f' : Nat → Nat → Int32} {T : Nat → Nat} {z : Nat} (h : KU t f f') (n : ND f T z) : ND f' T z := ⟨(h.2.1 6 (by omega)).trans n.1, n.2.1, fun j hj => by rw [h.1 80 (by omega) (by omega) (by omega)]; exact n.2.2.1 j hj, fun j hj => by rw [h.1 89 (by omega) (by omega) (by omega)]; exact n.2.2.2 j hj⟩
theorem rc_inj : ∀ k, k < 18 → ∀ j, j < 15 → c_rc k = c_rc j → k = j := by decide +kernel
theorem rc_is {k j : Nat} (hk : k ≤ 17) (hj : j < 15) {x c : Int32} (hx : x = c_rc k) (hc : c = c_rc j) : (x = c) = (k = j) := by
  rw [hx, hc]
  exact propext ⟨fun e => rc_inj _ (by omega) _ hj e, fun e => by rw [e]⟩
def s_sign (x : Int32) : Int32 := if x = (4 : Int32) then (11 : Int32) else if x = (5 : Int32) then (12 : Int32) else if x = (60 : Int32) then (14 : Int32) else if x = (61 : Int32) then (15 : Int32) else if x = (43 : Int32) then (16 : Int32) else if x = (45 : Int32) then (17 : Int32) else if x = (42 : Int32) then (18 : Int32) else -1
theorem sign_cc : ∀ k, k < 18 → s_sign (c_rc k) = if c_sg k = 0 then -1 else nI (m_cd (c_sg k)) := by decide +kernel
theorem r_sign (f : Nat → Nat → Int32) (r : Nat → Nat → Option Nat) : f_X11_signOf SS 76 (f, r) = some (s_sign (f 76 20), (f, r)) := by
  unfold f_X11_signOf s_sign
  simp only [if_pos ob11, gI_ok ob11, Option.bind_some]
  by_cases h0 : f 76 20 = (4 : Int32)
  · rw [if_pos h0, if_pos h0]
  rw [if_neg h0, if_neg h0]
  by_cases h1 : f 76 20 = (5 : Int32)
  · rw [if_pos h1, if_pos h1]
  rw [if_neg h1, if_neg h1]
  by_cases h2 : f 76 20 = (60 : Int32)
  · rw [if_pos h2, if_pos h2]
  rw [if_neg h2, if_neg h2]
  by_cases h3 : f 76 20 = (61 : Int32)
  · rw [if_pos h3, if_pos h3]
  rw [if_neg h3, if_neg h3]
  by_cases h4 : f 76 20 = (43 : Int32)
  · rw [if_pos h4, if_pos h4]
  rw [if_neg h4, if_neg h4]
  by_cases h5 : f 76 20 = (45 : Int32)
  · rw [if_pos h5, if_pos h5]
  rw [if_neg h5, if_neg h5]
  by_cases h6 : f 76 20 = (42 : Int32)
  · rw [if_pos h6, if_pos h6]
  rw [if_neg h6, if_neg h6]
theorem r_opens {t : Nat} {r : Nat → Nat → Option Nat} {f0 f : Nat → Nat → Int32} (hG : GG (f0, r)) {S : List Nat} {o : Nat} {out : List Emi} (h : RB t f S o out) (hl : S.length + out.length ≤ 198) {k : Nat} (k1 : k = 0 ∨ k = 2 ∨ k = 3) {c : Int32} (hc : c = nI (r_hc k)) : (o = 5 → f_X11_opensOne SS 76 c (f, r) = some (0, (f, r))) ∧ (o ≠ 5 → ∃ f', f_X11_opensOne SS 76 c (f, r) = some (1, (f', r)) ∧ RB t f' (k :: S) (o + 1) out ∧ KV t f f') := by
  have k5 : (5 : Int32) = nI 5 := by decide +kernel
  unfold f_X11_opensOne
  rw [if_pos ob11]
  simp only [gI_ok ob11, Option.bind_some]
  rw [show f 76 25 = nI o from h.2.2.1]
  have o5 := h.2.2.2.2.2.2.2.2
  refine ⟨fun e => ?_, fun e => ?_⟩
  · rw [if_pos (show nI o = 5 by rw [e, k5])]
  · rw [if_neg (show ¬ nI o = 5 from fun y => e (nI_inj (by omega) (by omega) (y.trans k5))), sI_ok ob11, Option.bind_some, nI_1]
    obtain ⟨f', a1, a2, a3⟩ := rb_holds hG h hl (by omega) (by omega) (Or.inr ⟨rfl, rfl⟩) (by
      show r_open S + (if k = 0 ∨ k = 2 ∨ k = 3 then 1 else 0) ≤ o + 1
      rw [if_pos k1]
      have := h.2.2.2.2.2.2.2.1
      omega) (by omega) hc
    exact ⟨f', by rw [show ((f, r) : e_G).1 = f from rfl, a1]; rfl, a2, a3⟩
theorem r_between {t : Nat} {r : Nat → Nat → Option Nat} {f0 f : Nat → Nat → Int32} (hG : GG (f0, r)) (ht : t < 6) {S : List Nat} {o : Nat} {out : List Emi} (h : RB t f S o out) (hl : S.length + out.length ≤ 198) {s : Nat} (s1 : 4 ≤ s) (s2 : s ≤ 10) {R : Nat} (hR : R = if c_rk s = 4 then 5 else c_rk s) : ∃ v f', f_X11_between SS 76 (nI (m_cd s)) (f, r) = some (v, (f', r)) ∧ KV t f f' ∧ (if c_rk s = 4 ∧ r_top4 (r_unw R S o out).1 = true then v = 0 ∧ ∃ k, k ≤ 198 ∧ f' 76 26 = nI k else v = 1 ∧ RB t f' (s :: (r_unw R S o out).1) (r_unw R S o out).2.1 (r_unw R S o out).2.2) ∧ (r_unw R S o out).1.length + (r_unw R S o out).2.2.length ≤ S.length + out.length := by
  have A90 : ArA 0 90 200 := by unfold ArA; decide +kernel
  have k4 : (4 : Int32) = nI 4 := by decide +kernel
  have hs : nI (m_cd s) = nI (r_hc s) := by unfold r_hc; rw [if_neg (by omega)]
  have sr := sg_rank s (by omega) s1
  have r17 : 1 ≤ R ∧ R ≤ 7 := by
    rw [hR]
    split <;> omega
  obtain ⟨f1, a1, a2, a3, a4⟩ := rb_unwinds hG ht r17.1 r17.2 h hl rfl
  obtain ⟨S', o', out', hU⟩ : ∃ S' o' out', r_unw R S o out = (S', o', out') := ⟨_, _, _, rfl⟩
  rw [hU] at a2 a4 ⊢
  have a4 : S'.length + out'.length ≤ S.length + out.length := a4
  have put : ∃ f', J_X11_between_55 SS 76 (nI (m_cd s)) (f1, r) = some (1, (f', r)) ∧ KV t f f' ∧ RB t f' (s :: S') o' out' := by
    obtain ⟨f2, b1, b2, b3⟩ := rb_holds hG a2 (by show S'.length + out'.length ≤ 198; omega) s2 (by omega) (Or.inl ⟨rfl, rfl⟩) (by
      show r_open S' + (if s = 0 ∨ s = 2 ∨ s = 3 then 1 else 0) ≤ o'
      rw [if_neg (by omega)]
      exact a2.2.2.2.2.2.2.2.1) a2.2.2.2.2.2.2.2.2 hs
    exact ⟨f2, by unfold J_X11_between_55; rw [b1]; rfl, a3.trans b3, b2⟩
  have mid : ∃ v f', J_X11_between_17 SS 76 (nI (m_cd s)) 76 (nI R) (f, r) = some (v, (f', r)) ∧ KV t f f' ∧ (if c_rk s = 4 ∧ r_top4 S' = true then v = 0 ∧ ∃ k, k ≤ 198 ∧ f' 76 26 = nI k else v = 1 ∧ RB t f' (s :: S') o' out') := by
    unfold J_X11_between_17
    rw [a1, Option.bind_some, hs, rk_ok s2 (by omega), Option.bind_some, ← hs]
    by_cases y : c_rk s = 4
    · rw [if_pos (show nI (c_rk s) = (4 : Int32) by rw [y, k4])]
      match S', hU, a2, a4, put with
      | [], _, a2, _, put =>
        rw [gI_ok ob11, Option.bind_some, show ((nI (c_rk s), (f1, r)) : Int32 × e_G).2.1 76 24 = nI 0 from a2.2.1, if_pos (by rw [nI_0]; decide)]
        obtain ⟨f2, b1, b2, b3⟩ := put
        exact ⟨1, f2, b1, b2, by rw [if_neg (fun e => absurd e.2 (by decide))]; exact ⟨rfl, b3⟩⟩
      | k :: S', _, a2, a4, put =>
        have a4 : S'.length + 1 + out'.length ≤ S.length + out.length := a4
        have hk := a2.2.2.2.2.2.1 k (by simp)
        have top : f1 90 S'.length = nI (r_hc k) := by
          have := a2.2.2.2.2.1 0 (by simp)
          simpa using this
        have rk7 : c_rk k ≤ 7 := by
          unfold c_rk
          repeat' split
          all_goals omega
        rw [gI_ok ob11, Option.bind_some, show ((nI (c_rk s), (f1, r)) : Int32 × e_G).2.1 76 24 = nI (S'.length + 1) from a2.2.1, if_neg (show ¬ nI (S'.length + 1) ≤ 0 by rw [← nI_0]; exact nI_ge (by omega) (by omega)), r90_ hG, Option.bind_some, Option.bind_some, nI_pred, aI_ok A90 (by omega) (by omega), Option.bind_some, show ((nI (c_rk s), (f1, r)) : Int32 × e_G).2.1 90 S'.length = nI (r_hc k) from top, rk_ok hk.1 hk.2, Option.bind_some]
        by_cases y2 : c_rk k = 4
        · rw [if_pos (show nI (c_rk k) = (4 : Int32) by rw [y2, k4])]
          exact ⟨0, f1, rfl, a3, by rw [if_pos ⟨y, by show (c_rk k == 4) = true; rw [y2]; rfl⟩]; exact ⟨rfl, out'.length, by omega, a2.2.2.2.1⟩⟩
        · rw [if_neg (show ¬ nI (c_rk k) = (4 : Int32) from fun e => y2 (nI_inj (by omega) (by omega) (e.trans k4)))]
          obtain ⟨f2, b1, b2, b3⟩ := put
          exact ⟨1, f2, b1, b2, by rw [if_neg (fun e => y2 (by have := e.2; have this : (c_rk k == 4) = true := this; rw [beq_iff_eq] at this; exact this))]; exact ⟨rfl, b3⟩⟩
    · rw [if_neg (show ¬ nI (c_rk s) = (4 : Int32) from fun e => y (nI_inj (by omega) (by omega) (e.trans k4)))]
      obtain ⟨f2, b1, b2, b3⟩ := put
      exact ⟨1, f2, b1, b2, by rw [if_neg (fun e => y e.1)]; exact ⟨rfl, b3⟩⟩
  obtain ⟨v, f', c1, c2, c3⟩ := mid
  refine ⟨v, f', ?_, c2, c3, a4⟩
  unfold f_X11_between
  rw [if_pos ob11, hs, rk_ok s2 (by omega), Option.bind_some]
  by_cases y : c_rk s = 4
  · rw [if_pos (show nI (c_rk s) = (4 : Int32) by rw [y, k4]), ← hs]
    rw [if_pos y] at hR
    rw [hR] at c1
    exact c1
  · rw [if_neg (show ¬ nI (c_rk s) = (4 : Int32) from fun e => y (nI_inj (by omega) (by omega) (e.trans k4))), rk_ok s2 (by omega), Option.bind_some, ← hs]
    rw [if_neg y] at hR
    rw [hR] at c1
    exact c1
def RO (t : Nat) (T : Nat → Nat) (z : Nat) (v : Int32) (f' : Nat → Nat → Int32) : PSt → Prop
  | .inl a => v = 0 ∧ f' 76 19 = nI a ∧ ∃ k, k ≤ 198 ∧ f' 76 26 = nI k
  | .inr (ts', out') => v = 1 ∧ f' 76 26 = nI out'.length ∧ out'.length ≤ 198 ∧ (∀ j (h : j < out'.length), f' 81 (200 * t + j) = m_enc out'[j]) ∧ ∃ p' nn', p' ≤ z ∧ f' 76 18 = nI p' ∧ z < nn' + p' ∧ ts' = c_toks T z nn' p'
theorem RB.next {t : Nat} {f f' : Nat → Nat → Int32} {S : List Nat} {o : Nat} {out : List Emi} (h : RB t f S o out) (e1 : ∀ b, b ≠ 76 → f' b = f b) (e2 : ∀ k, k ≠ 18 → k ≠ 19 → k ≠ 20 → k ≠ 21 → f' 76 k = f 76 k) : RB t f' S o out := by
  obtain ⟨h1, h2, h3, h4, h5, h6, h7, h8, h9⟩ := h
  have g : ∀ k, k ≠ 18 → k ≠ 19 → k ≠ 20 → k ≠ 21 → ∀ v, f 76 k = v → f' 76 k = v := fun k a b c d v e => (e2 k a b c d).trans e
  exact ⟨g 9 (by omega) (by omega) (by omega) (by omega) _ h1, g 24 (by omega) (by omega) (by omega) (by omega) _ h2, g 25 (by omega) (by omega) (by omega) (by omega) _ h3, g 26 (by omega) (by omega) (by omega) (by omega) _ h4, fun j hj => by rw [e1 90 (by omega)]; exact h5 j hj, h6, fun j hj => by rw [e1 81 (by omega)]; exact h7 j hj, h8, h9⟩
def b_i (b : Bool) : Int32 := if b = true then 1 else 0
theorem ar1 {a b c : Nat} (h1 : a ≤ b + 1) (h2 : b + (c + 1) ≤ 198) : a + c ≤ 198 := by omega
theorem ar2 {s o c : Nat} (h : s + o + (c + 1) ≤ 198) : s + (o + 1) ≤ 198 := by omega
theorem r_unw_head {R : Nat} : ∀ (S : List Nat) o out h S', (r_unw R S o out).1 = h :: S' → c_rk h < R := by
  intro S
  induction S with
  | nil => intro o out h S' e; exact absurd e (by rw [r_unw]; simp)
  | cons k S ih =>
    intro o out h S' e
    rw [r_unw] at e
    split at e
    next y => cases e; exact y
    next y => exact ih _ _ h S' e
theorem rk_0 {h : Nat} (y : c_rk h < 1) : h = 0 := by
  unfold c_rk at y
  repeat' split at y
  all_goals omega
theorem code_facts : ∀ s, s < 11 → 4 ≤ s → m_cd s < 20 ∧ nI (m_cd s) ≠ -1 ∧ ((12 : Int32) < nI (m_cd s) ↔ s < 9) ∧ (c_rk s = 4 → s < 9) := by decide +kernel
theorem rb_run {t : Nat} {T : Nat → Nat} {z : Nat} {r : Nat → Nat → Option Nat} {f0 : Nat → Nat → Int32} (hG : GG (f0, r)) (ht : t < 6) : ∀ nn w mn S o out f m p, RB t f S o out → ND f T z → f 76 18 = nI p → p ≤ z → z < nn + p → S.length + out.length + (c_toks T z nn p).length ≤ 198 → nn < m → ∃ v f', L_X11_eRead_14 m SS 76 (b_i w) (b_i mn) (f, r) = some (v, (f', r)) ∧ KU t f f' ∧ RO t T z v f' (r_run (c_toks T z nn p) w mn S o out) := by
  intro nn
  induction nn with
  | zero => intro w mn S o out f m p _ _ _ h1 h2; omega
  | succ nn ih =>
    intro w mn S o out f m p hB hN hn hp hz hl hm
    obtain ⟨m, rfl⟩ : ∃ q, m = q + 1 := ⟨m - 1, by omega⟩
    obtain ⟨f1, a1, a2, a3, a4, a5, a6, a7, a8⟩ := x11_next hG hN hn hp
    obtain ⟨l1, l2, l3, l4, l5, l6, l7⟩ := lx_sp (T := T) hp
    have B1 := hB.next a2 a3
    have U1 : KU t f f1 := ⟨fun b h1 _ _ => a2 b h1, fun k hk => a3 k (by omega) (by omega) (by omega) (by omega), fun i _ => by rw [a2 81 (by omega)]⟩
    have N1 := U1.nd hN
    rw [c_toks, List.length_cons] at hl
    rw [L_X11_eRead_14, a1, Option.bind_some, c_toks]
    generalize lx_ T z p = L at *
    obtain ⟨k, pl, va, nx⟩ := L
    simp only at *
    have is : ∀ {j : Nat} {c : Int32}, j < 15 → c = c_rc j → (f1 76 20 = c) = (k = j) := fun hj hc => rc_is l1 hj a6 hc
    have out_bad : RO t T z 0 f1 (.inl pl) := ⟨rfl, a5, out.length, by omega, B1.2.2.2.1⟩
    -- going on from a state reached
    have go : ∀ w' mn' S' o' out' F, k ≠ 0 → RB t F S' o' out' → KV t f1 F → S'.length + out'.length ≤ S.length + out.length + 1 → ∃ v f', L_X11_eRead_14 m SS 76 (b_i w') (b_i mn') (F, r) = some (v, (f', r)) ∧ KU t f f' ∧ RO t T z v f' (r_run (if k = 0 then [] else c_toks T z nn nx) w' mn' S' o' out') := by
      intro w' mn' S' o' out' F k0 hB' hV hL
      have q0 := l4 k0
      have q1 : z < nn + nx := by clear ih; omega
      have hl' := hl
      rw [if_neg k0] at hl'
      have q2 : S'.length + out'.length + (c_toks T z nn nx).length ≤ 198 := ar1 hL hl'
      have q3 : nn < m := by clear ih; omega
      obtain ⟨v, f', b1, b2, b3⟩ := ih w' mn' S' o' out' F m nx hB' (hV.ku.nd N1) ((hV.2.1 18 (by decide) (by decide) (by decide)).trans a4) l3 q1 q2 q3
      rw [if_neg k0]
      exact ⟨v, f', b1, (U1.trans hV.ku).trans b2, b3⟩
    have bad19 : ∀ F k', KV t f1 F → k' ≤ 198 → F 76 26 = nI k' → RO t T z 0 F (.inl pl) := fun F k' hV h1 h2 => ⟨rfl, (hV.2.1 19 (by omega) (by omega) (by omega)).trans a5, k', h1, h2⟩
    cases w with
    | true =>
      rw [show b_i true = 1 from rfl, if_neg (show ¬ (1 : Int32) = 0 by decide), gI_ok ob11, Option.bind_some, r_run]
      simp only
      have operand : (k = 2 ∨ k = 3) → ∃ v f', J_X11_eRead_38 (L_X11_eRead_14 m SS) SS 76 (b_i mn) (f1, r) = some (v, (f', r)) ∧ KU t f f' ∧ RO t T z v f' (r_run (if k = 0 then [] else c_toks T z nn nx) false mn (r_unw 7 S o (out ++ [(k - 2, va)])).1 (r_unw 7 S o (out ++ [(k - 2, va)])).2.1 (r_unw 7 S o (out ++ [(k - 2, va)])).2.2) := by
        intro y
        have fin : ∀ c : Int32, c = m_enc (k - 2, va) → ∃ v f', J_X11_eRead_61 (L_X11_eRead_14 m SS) SS 76 (b_i mn) 76 c (f1, r) = some (v, (f', r)) ∧ KU t f f' ∧ RO t T z v f' (r_run (if k = 0 then [] else c_toks T z nn nx) false mn (r_unw 7 S o (out ++ [(k - 2, va)])).1 (r_unw 7 S o (out ++ [(k - 2, va)])).2.1 (r_unw 7 S o (out ++ [(k - 2, va)])).2.2) := by
          intro c hc
          obtain ⟨f2, b1, b2, b3⟩ := rb_puts hG ht B1 (by omega) hc
          have ol : (out ++ [(k - 2, va)]).length = out.length + 1 := by simp
          have q2 : S.length + (out ++ [(k - 2, va)]).length ≤ 198 := by rw [ol]; exact ar2 hl
          obtain ⟨f3, c1, c2, c3, c4⟩ := rb_unwinds hG ht (R := 7) (by decide) (by decide) b2 q2 (c := 7) rfl
          rw [ol] at c4
          unfold J_X11_eRead_61
          rw [b1, Option.bind_some, c1, Option.bind_some]
          exact go false mn _ _ _ f3 (by omega) c2 (b3.trans c3) (by omega)
        unfold J_X11_eRead_38
        rw [gI_ok ob11, Option.bind_some]
        rcases y with y | y
        · rw [if_pos (show (f1, r).1 76 20 = (1 : Int32) from (is (j := 2) (by omega) rfl).mpr y), gI_ok ob11, Option.bind_some, show (f1, r).1 76 21 = va from a7 (Or.inl y)]
          exact fin _ (by rw [y]; exact Int32.add_comm _ _)
        · rw [if_neg (show ¬ (f1, r).1 76 20 = (1 : Int32) from fun e => by have := (is (j := 2) (by omega) rfl).mp e; omega), gI_ok ob11, Option.bind_some, show (f1, r).1 76 21 = va from a7 (Or.inr y)]
          exact fin _ (by rw [y]; rfl)
      by_cases k2 : k = 2
      · rw [if_pos (show (f1, r).1 76 20 = (1 : Int32) from (is (j := 2) (by omega) rfl).mpr k2), if_pos (Or.inl k2)]
        exact operand (Or.inl k2)
      rw [if_neg (show ¬ (f1, r).1 76 20 = (1 : Int32) from fun e => k2 ((is (j := 2) (by omega) rfl).mp e)), Option.bind_some]
      by_cases k3 : k = 3
      · rw [if_pos (show (f1, r).1 76 20 = (2 : Int32) from (is (j := 3) (by omega) rfl).mpr k3), if_pos (Or.inr k3)]
        exact operand (Or.inr k3)
      rw [if_neg (show ¬ (f1, r).1 76 20 = (2 : Int32) from fun e => k3 ((is (j := 3) (by omega) rfl).mp e)), Option.bind_some, if_neg (show ¬ (k = 2 ∨ k = 3) by omega)]
      have opens : ∀ (h : Nat) (c : Int32) (b : Bool) (K : Int32 × e_G → Option (Int32 × e_G)), (h = 0 ∨ h = 2 ∨ h = 3) → c = nI (r_hc h) → k ≠ 0 → (∀ g, K (0, g) = some (0, g)) → (∀ g, K (1, g) = L_X11_eRead_14 m SS 76 (b_i true) (b_i b) g) → ∃ v f', (f_X11_opensOne SS 76 c (f1, r)).bind K = some (v, (f', r)) ∧ KU t f f' ∧ RO t T z v f' (if o = 5 then .inl pl else r_run (if k = 0 then [] else c_toks T z nn nx) true b (h :: S) (o + 1) out) := by
        intro h c b K h1 h2 k0 h3 h4
        obtain ⟨p1, p2⟩ := r_opens hG B1 (by omega) h1 h2
        by_cases o5 : o = 5
        · rw [p1 o5, Option.bind_some, h3, if_pos o5]
          exact ⟨0, f1, rfl, U1, out_bad⟩
        · obtain ⟨f2, b1, b2, b3⟩ := p2 o5
          rw [b1, Option.bind_some, h4, if_neg o5]
          exact go true b _ _ _ f2 k0 b2 b3 (by simp; omega)
      have ninety : k ≠ 14 ∨ mn = false → ∃ v f', J_X11_eRead_99 (L_X11_eRead_14 m SS) SS 76 1 (f1, r) = some (v, (f', r)) ∧ KU t f f' ∧ RO t T z v f' (if k = 14 ∧ mn = true then (if o = 5 then .inl pl else r_run (if k = 0 then [] else c_toks T z nn nx) true mn (3 :: S) (o + 1) out) else if k = 8 then (if o = 5 then .inl pl else r_run (if k = 0 then [] else c_toks T z nn nx) true false (2 :: S) (o + 1) out) else if k = 4 then (if o = 5 then .inl pl else r_run (if k = 0 then [] else c_toks T z nn nx) true true (0 :: S) (o + 1) out) else .inl pl) := by
        intro y
        rw [if_neg (show ¬ (k = 14 ∧ mn = true) from fun e => by
          rcases y with y | y
          · exact y e.1
          · rw [y] at e; exact absurd e.2 (by decide))]
        unfold J_X11_eRead_99
        rw [gI_ok ob11, Option.bind_some]
        by_cases k8 : k = 8
        · rw [if_pos (show (f1, r).1 76 20 = (45 : Int32) from (is (j := 8) (by omega) rfl).mpr k8), if_pos k8]
          exact opens 2 19 false _ (Or.inr (Or.inl rfl)) rfl (by omega) (fun g => by rw [if_pos rfl]) (fun g => by rw [if_neg (show ¬ ((1 : Int32), g).1 = 0 from (by decide : ¬ (1 : Int32) = 0))]; rfl)
        · rw [if_neg (show ¬ (f1, r).1 76 20 = (45 : Int32) from fun e => k8 ((is (j := 8) (by omega) rfl).mp e)), if_neg k8, Option.bind_some]
          by_cases k4 : k = 4
          · rw [if_pos (show (f1, r).1 76 20 = (40 : Int32) from (is (j := 4) (by omega) rfl).mpr k4), if_pos k4]
            exact opens 0 0 true _ (Or.inl rfl) rfl (by omega) (fun g => by rw [if_pos rfl]) (fun g => by rw [if_neg (show ¬ ((1 : Int32), g).1 = 0 from (by decide : ¬ (1 : Int32) = 0))]; rfl)
          · rw [if_neg (show ¬ (f1, r).1 76 20 = (40 : Int32) from fun e => k4 ((is (j := 4) (by omega) rfl).mp e)), if_neg k4]
            exact ⟨0, f1, rfl, U1, out_bad⟩
      by_cases k14 : k = 14
      · rw [if_pos (show (f1, r).1 76 20 = (6 : Int32) from (is (j := 14) (by omega) rfl).mpr k14)]
        cases mn with
        | false =>
          rw [show b_i false = 0 from rfl, if_pos rfl]
          exact ninety (Or.inr rfl)
        | true =>
          rw [show b_i true = 1 from rfl, if_neg (show ¬ (1 : Int32) = 0 by decide), if_pos (show k = 14 ∧ true = true from ⟨k14, rfl⟩)]
          exact opens 3 13 true _ (Or.inr (Or.inr rfl)) rfl (by omega) (fun g => by rw [if_pos rfl]) (fun g => by rw [if_neg (show ¬ ((1 : Int32), g).1 = 0 from (by decide : ¬ (1 : Int32) = 0))]; rfl)
      · rw [if_neg (show ¬ (f1, r).1 76 20 = (6 : Int32) from fun e => k14 ((is (j := 14) (by omega) rfl).mp e))]
        exact ninety (Or.inl k14)
    | false =>
      rw [show b_i false = 0 from rfl, if_pos rfl, gI_ok ob11, Option.bind_some, r_run]
      simp only
      by_cases k6 : k = 6
      · rw [if_pos (show (f1, r).1 76 20 = (59 : Int32) from (is (j := 6) (by omega) rfl).mpr k6), if_pos k6]
        obtain ⟨f2, b1, b2, b3, b4⟩ := rb_unwinds hG ht (R := 1) (by omega) (by omega) B1 (by omega) (c := 1) rfl
        rw [b1, Option.bind_some, gI_ok ob11, Option.bind_some, show (f2, r).1 76 24 = _ from b2.2.1]
        by_cases e : (r_unw 1 S o out).1 = []
        · rw [e, if_pos (show nI ([] : List Nat).length = 0 from nI_0), if_pos rfl]
          have := l4 (by omega)
          rw [if_neg (by omega)]
          exact ⟨1, f2, rfl, U1.trans b3.ku, rfl, b2.2.2.2.1, by omega, b2.2.2.2.2.2.2.1, nx, nn, l3, (b3.2.1 18 (by omega) (by omega) (by omega)).trans a4, by omega, rfl⟩
        · rw [if_neg e, if_neg (show ¬ nI (r_unw 1 S o out).1.length = 0 from fun y => e (List.length_eq_zero_iff.mp (nI_inj (by omega) (by omega) (y.trans nI_0.symm))))]
          exact ⟨0, f2, rfl, U1.trans b3.ku, bad19 f2 _ b3 (by omega) b2.2.2.2.1⟩
      rw [if_neg (show ¬ (f1, r).1 76 20 = (59 : Int32) from fun e => k6 ((is (j := 6) (by omega) rfl).mp e)), if_neg k6, Option.bind_some]
      by_cases k5 : k = 5
      · rw [if_pos (show (f1, r).1 76 20 = (41 : Int32) from (is (j := 5) (by omega) rfl).mpr k5), if_pos k5]
        obtain ⟨f2, b1, b2, b3, b4⟩ := rb_unwinds hG ht (R := 1) (by omega) (by omega) B1 (by omega) (c := 1) rfl
        rw [b1, Option.bind_some, gI_ok ob11, Option.bind_some, show (f2, r).1 76 24 = _ from b2.2.1]
        obtain ⟨S', o', out', hU⟩ : ∃ S' o' out', r_unw 1 S o out = (S', o', out') := ⟨_, _, _, rfl⟩
        rw [hU] at b2 b4 ⊢
        match S', hU, b2, b4 with
        | [], _, b2, b4 =>
          rw [if_pos (show nI ([] : List Nat).length = 0 from nI_0)]
          exact ⟨0, f2, rfl, U1.trans b3.ku, bad19 f2 _ b3 (by have b4 : 0 + out'.length ≤ S.length + out.length := b4; omega) b2.2.2.2.1⟩
        | h :: S', hU, b2, b4 =>
          have b4 : S'.length + 1 + out'.length ≤ S.length + out.length := b4
          rw [if_neg (show ¬ nI (h :: S').length = 0 from fun y => by have := nI_inj (show S'.length + 1 < 2 ^ 31 by omega) (by omega) (y.trans nI_0.symm); omega)]
          have h0 : h = 0 := rk_0 (r_unw_head S o out h S' (by rw [hU]))
          subst h0
          have op : r_open (0 :: S') = r_open S' + 1 := rfl
          obtain ⟨c1, c2, c3, c4, c5, c6, c7, c8, c9⟩ := b2
          have c8 : r_open S' + 1 ≤ o' := c8
          have c9 : o' ≤ 5 := c9
          have c3 : f2 76 25 = nI o' := c3
          rw [Option.bind_some, sI_ok ob11, Option.bind_some, show nI (0 :: S').length - 1 = nI S'.length from nI_pred S'.length, gI_ok ob11, Option.bind_some, sI_ok ob11, Option.bind_some]
          show ∃ v f', ((f_X11_unwinds SS 76 7 (e_up (e_up f2 76 24 (nI S'.length)) 76 25 (e_up f2 76 24 (nI S'.length) 76 25 - 1), r)).bind _) = _ ∧ _
          rw [e_up_ne (Or.inr (show 25 ≠ 24 by decide)), c3, show nI o' - 1 = nI (o' - 1) by rw [show o' = o' - 1 + 1 by omega, nI_pred]; congr 1]
          have hB' : RB t (e_up (e_up f2 76 24 (nI S'.length)) 76 25 (nI (o' - 1))) S' (o' - 1) out' := ⟨by rw [e_up_ne (Or.inr (by decide)), e_up_ne (Or.inr (by decide))]; exact c1, by rw [e_up_ne (Or.inr (by decide)), e_up_eq], e_up_eq, by rw [e_up_ne (Or.inr (by decide)), e_up_ne (Or.inr (by decide))]; exact c4, fun j hj => by
            rw [e_up_row (by decide), e_up_row (by decide)]
            have := c5 (j + 1) (by simp; omega)
            simp only [List.length_cons, List.getElem_cons_succ] at this
            rw [show S'.length + 1 - 1 - (j + 1) = S'.length - 1 - j by omega] at this
            exact this, fun q hq => c6 q (by simp [hq]), fun j hj => by rw [e_up_row (by decide), e_up_row (by decide)]; exact c7 j hj, by omega, by omega⟩
          obtain ⟨f3, d1, d2, d3, d4⟩ := rb_unwinds hG ht (R := 7) (by decide) (by decide) hB' (by omega) (c := 7) rfl
          rw [d1, Option.bind_some]
          exact go false mn _ _ _ f3 (by omega) d2 ((b3.trans ((KV.up (Or.inl rfl)).trans (KV.up (Or.inr (Or.inl rfl))))).trans d3) (Nat.le_trans d4 (by omega))
      rw [if_neg (show ¬ (f1, r).1 76 20 = (41 : Int32) from fun e => k5 ((is (j := 5) (by omega) rfl).mp e)), if_neg k5, r_sign, Option.bind_some]
      show ∃ v f', (if s_sign (f1 76 20) = -1 then _ else _) = _ ∧ _
      rw [a6, sign_cc k (by omega)]
      by_cases z0 : c_sg k = 0
      · rw [if_pos z0, if_pos rfl, if_pos z0]
        exact ⟨0, f1, rfl, U1, out_bad⟩
      · rcases sg_range k with e | ⟨s1, s2, s3⟩
        · exact absurd e z0
        rw [if_neg z0, if_neg z0]
        obtain ⟨e1, e2, e3, e4⟩ := code_facts (c_sg k) (by omega) s1
        rw [if_neg e2]
        obtain ⟨v, f2, b1, b2, b3, b4⟩ := r_between hG ht B1 (by omega) s1 s2 rfl
        show ∃ v f', ((f_X11_between SS 76 (nI (m_cd (c_sg k))) (f1, r)).bind _) = _ ∧ _
        rw [b1, Option.bind_some]
        by_cases y4 : c_rk (c_sg k) = 4
        · rw [if_pos y4] at b3 b4
          rw [if_pos y4]
          by_cases y5 : r_top4 (r_unw 5 S o out).1 = true
          · rw [if_pos ⟨y4, y5⟩] at b3
            obtain ⟨rfl, q, q1, q2⟩ := b3
            rw [if_pos y5, if_pos rfl]
            exact ⟨0, f2, rfl, U1.trans b2.ku, bad19 f2 _ b2 q1 q2⟩
          · rw [if_neg (fun e => y5 e.2)] at b3
            obtain ⟨rfl, b3⟩ := b3
            rw [if_neg y5, if_neg (show ¬ (1 : Int32) = 0 by decide), if_pos (e3.mpr (e4 y4))]
            exact go true false _ _ _ f2 (by omega) b3 b2 (by show (r_unw 5 S o out).1.length + 1 + _ ≤ _; omega)
        · rw [if_neg y4] at b3 b4
          rw [if_neg y4]
          rw [if_neg (fun e => y4 e.1)] at b3
          obtain ⟨rfl, b3⟩ := b3
          rw [if_neg (show ¬ (1 : Int32) = 0 by decide)]
          by_cases y9 : c_sg k < 9
          · rw [if_pos (e3.mpr y9), show decide (9 ≤ c_sg k) = false from decide_eq_false (by omega)]
            exact go true false _ _ _ f2 (by omega) b3 b2 (by show (r_unw _ S o out).1.length + 1 + _ ≤ _; omega)
          · rw [if_neg (fun e => y9 (e3.mp e)), show decide (9 ≤ c_sg k) = true from decide_eq_true (by omega)]
            exact go true true _ _ _ f2 (by omega) b3 b2 (by show (r_unw _ S o out).1.length + 1 + _ ≤ _; omega)
