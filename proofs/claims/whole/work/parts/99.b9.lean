/-! the reference reads a whole text -/
def KZ (t : Nat) (f f' : Nat → Nat → Int32) : Prop := (∀ b, b ≠ 76 → b ≠ 81 → b ≠ 82 → b ≠ 90 → f' b = f b) ∧ (∀ k, (k < 18 ∨ k = 22 ∨ k = 23 ∨ 27 ≤ k) → k ≠ 6 → k ≠ 9 → f' 76 k = f 76 k) ∧ (∀ i, (i < 200 * t ∨ 200 * t + 200 ≤ i) → f' 81 i = f 81 i) ∧ ∀ i, (i < 4 * t ∨ 4 * t + 4 ≤ i) → f' 82 i = f 82 i
theorem KZ.trans {t : Nat} {f f' f'' : Nat → Nat → Int32} (h : KZ t f f') (k : KZ t f' f'') : KZ t f f'' := ⟨fun b h1 h2 h3 h4 => (k.1 b h1 h2 h3 h4).trans (h.1 b h1 h2 h3 h4), fun j h1 h2 h3 => (k.2.1 j h1 h2 h3).trans (h.2.1 j h1 h2 h3), fun i hi => (k.2.2.1 i hi).trans (h.2.2.1 i hi), fun i hi => (k.2.2.2 i hi).trans (h.2.2.2 i hi)⟩
theorem KU.kz {t : Nat} {f f' : Nat → Nat → Int32} (h : KU t f f') : KZ t f f' := ⟨fun b h1 h2 _ h4 => h.1 b h1 h2 h4, fun k hk _ _ => h.2.1 k hk, h.2.2, fun i _ => by rw [h.1 82 (by decide) (by decide) (by decide)]⟩
theorem KZ.up82 {t : Nat} {f : Nat → Nat → Int32} {p : Nat} (hp : p < 4) {v : Int32} : KZ t f (e_up f 82 (4 * t + p) v) := ⟨fun b _ _ h _ => e_up_row h, fun k _ _ _ => by rw [e_up_row (by decide)], fun i _ => by rw [e_up_row (by decide)], fun i hi => e_up_ne (Or.inr (by omega))⟩
theorem KZ.up76 {t : Nat} {f : Nat → Nat → Int32} {k : Nat} (hk : k = 6 ∨ k = 9 ∨ k = 18 ∨ k = 24 ∨ k = 25 ∨ k = 26) {v : Int32} : KZ t f (e_up f 76 k v) := ⟨fun b h _ _ _ => e_up_row h, fun j _ _ _ => e_up_ne (Or.inr (by omega)), fun i _ => by rw [e_up_row (by decide)], fun i _ => by rw [e_up_row (by decide)]⟩
/-- between two parts -/
def RS (t : Nat) (T : Nat → Nat) (z : Nat) (f : Nat → Nat → Int32) (ts : List Tkn) (out : List Emi) : Prop := f 76 9 = nI t ∧ f 76 26 = nI out.length ∧ (∀ j (h : j < out.length), f 81 (200 * t + j) = m_enc out[j]) ∧ ND f T z ∧ ∃ p nn, p ≤ z ∧ f 76 18 = nI p ∧ z < nn + p ∧ nn < 40000 ∧ ts = c_toks T z nn p
theorem x82 {t : Nat} (ht : t < 6) {r : Nat → Nat → Option Nat} {f : Nat → Nat → Int32} {p : Nat} (hp : p < 4) {v c : Int32} (hc : c = nI p) : e_aS SS (f, r) 0 82 ((4 : Int32) * nI t + c) v = some (e_up f 82 (4 * t + p) v, r) := by
  have A82 : ArA 0 82 24 := by unfold ArA; decide +kernel
  rw [hc, nI_4, nI_add, aS_ok A82 (by omega) (by omega)]
/-- the end: the place of the fault -/
theorem rt_bad {t : Nat} (ht : t < 6) {r : Nat → Nat → Option Nat} {f0 f : Nat → Nat → Int32} (hG : GG (f0, r)) (h9 : f 76 9 = nI t) {a : Nat} (ha : f 76 19 = nI a) : ∃ f', J_X11_text_122 SS 76 0 (f, r) = some ((-100 : Int32) - nI a, (f', r)) ∧ KZ t f f' ∧ f' 76 6 = 0 ∧ f' 76 9 = nI t := by
  refine ⟨e_up (e_up f 82 (4 * t + 3) (f 76 26)) 76 6 0, ?_, (KZ.up82 (by decide)).trans (KZ.up76 (Or.inl rfl)), e_up_eq, by rw [e_up_ne (Or.inr (by decide)), e_up_row (by decide)]; exact h9⟩
  unfold J_X11_text_122
  rw [r82_ hG, Option.bind_some, gI_ok ob11, Option.bind_some, gI_ok ob11, Option.bind_some, show (f, r).1 76 9 = nI t from h9, x82 ht (p := 3) (c := 3) (by decide) rfl, Option.bind_some, sI_ok ob11, Option.bind_some, if_pos rfl, gI_ok ob11, Option.bind_some]
  rw [show (e_up (e_up f 82 (4 * t + 3) ((f, r).1 76 26), r).1 76 6 0, r).1 76 19 = nI a by show e_up (e_up f 82 (4 * t + 3) (f 76 26)) 76 6 0 76 19 = nI a; rw [e_up_ne (Or.inr (by decide)), e_up_row (by decide)]; exact ha]
theorem rt_good {t : Nat} (ht : t < 6) {r : Nat → Nat → Option Nat} {f0 f : Nat → Nat → Int32} (hG : GG (f0, r)) (h9 : f 76 9 = nI t) : ∃ f', J_X11_text_122 SS 76 1 (f, r) = some (nI t, (f', r)) ∧ KZ t f f' ∧ f' 76 6 = 0 ∧ f' 76 9 = nI (t + 1) ∧ f' 82 (4 * t + 3) = f 76 26 ∧ (∀ i, i ≠ 4 * t + 3 → f' 82 i = f 82 i) ∧ f' 81 = f 81 := by
  refine ⟨e_up (e_up (e_up f 82 (4 * t + 3) (f 76 26)) 76 6 0) 76 9 (nI (t + 1)), ?_, ((KZ.up82 (by decide)).trans (KZ.up76 (Or.inl rfl))).trans (KZ.up76 (Or.inr (Or.inl rfl))), by rw [e_up_ne (Or.inr (by decide)), e_up_eq], e_up_eq, by rw [e_up_row (by decide), e_up_row (by decide), e_up_eq], fun i hi => by rw [e_up_row (by decide), e_up_row (by decide), e_up_ne (Or.inr hi)], by rw [e_up_row (by decide), e_up_row (by decide), e_up_row (by decide)]⟩
  unfold J_X11_text_122
  rw [r82_ hG, Option.bind_some, gI_ok ob11, Option.bind_some, gI_ok ob11, Option.bind_some, show (f, r).1 76 9 = nI t from h9, x82 ht (p := 3) (c := 3) (by decide) rfl, Option.bind_some, sI_ok ob11, Option.bind_some, if_neg (show ¬ (1 : Int32) = 0 by decide), gI_ok ob11, Option.bind_some, sI_ok ob11, Option.bind_some, gI_ok ob11, Option.bind_some]
  have e : (e_up (e_up f 82 (4 * t + 3) (f 76 26)) 76 6 0) 76 9 = nI t := by rw [e_up_ne (Or.inr (by decide)), e_up_row (by decide)]; exact h9
  show some (e_up (e_up (e_up f 82 (4 * t + 3) (f 76 26)) 76 6 0) 76 9 ((e_up (e_up f 82 (4 * t + 3) (f 76 26)) 76 6 0) 76 9 + 1) 76 9 - 1, (e_up (e_up (e_up f 82 (4 * t + 3) (f 76 26)) 76 6 0) 76 9 ((e_up (e_up f 82 (4 * t + 3) (f 76 26)) 76 6 0) 76 9 + 1), r)) = _
  rw [e, nI_1, e_up_eq, nI_pred]
/-- one part -/
theorem rt_stage {t : Nat} (ht : t < 6) {T : Nat → Nat} {z : Nat} {r : Nat → Nat → Option Nat} {f0 f : Nat → Nat → Int32} (hG : GG (f0, r)) {ts : List Tkn} {out : List Emi} (h : RS t T z f ts out) (hT : TW ts) (hl : ts.length + out.length ≤ 161) {p : Nat} (hp : p < 3) {m : Nat} {q : PSt} (hq : p_part (p_expect (15 + p) (.inr (ts, out))) = q) : ∃ f', KZ t f f' ∧ f' 76 9 = nI t ∧ (∀ a, q = .inl a → L_X11_text_26 (m + 1 + 1) SS 76 1 (nI p) (f, r) = J_X11_text_122 SS 76 0 (f', r) ∧ f' 76 19 = nI a) ∧ ∀ ts' out', q = .inr (ts', out') → L_X11_text_26 (m + 1 + 1) SS 76 1 (nI p) (f, r) = L_X11_text_26 (m + 1) SS 76 1 (nI (p + 1)) (f', r) ∧ RS t T z f' ts' out' ∧ f' 82 (4 * t + p) = nI out.length ∧ ∀ i, i ≠ 4 * t + p → f' 82 i = f 82 i := by
  obtain ⟨h9, h26, hc, hN, pp, nn, n1, n2, n3, n4, rfl⟩ := h
  have k3 : (3 : Int32) = nI 3 := by decide +kernel
  obtain ⟨nn, rfl⟩ : ∃ q, nn = q + 1 := ⟨nn - 1, by omega⟩
  obtain ⟨f1, a1, a2, a3, a4, a5, a6, a7, a8⟩ := x11_next hG hN n2 n1
  obtain ⟨l1, l2, l3, l4, l5, l6, l7⟩ := lx_sp (T := T) n1
  have U1 : KU t f f1 := ⟨fun b h1 _ _ => a2 b h1, fun k hk => a3 k (by omega) (by omega) (by omega) (by omega), fun i _ => by rw [a2 81 (by decide)]⟩
  have N1 := U1.nd hN
  rw [L_X11_text_26, if_neg (show ¬ (3 : Int32) ≤ nI p by rw [k3]; exact nI_ge hp (by omega)), if_neg (show ¬ (1 : Int32) = 0 by decide), a1, Option.bind_some, gI_ok ob11, Option.bind_some]
  have hT' := hT
  rw [c_toks] at hq hl hT'
  generalize lx_ T z pp = L at *
  obtain ⟨k, pl, va, nx⟩ := L
  simp only at *
  have b9 : f1 76 9 = nI t := (a3 9 (by decide) (by decide) (by decide) (by decide)).trans h9
  have b26 : f1 76 26 = nI out.length := (a3 26 (by decide) (by decide) (by decide) (by decide)).trans h26
  have k15 : (f1 76 20 = 3) = (15 ≤ k) := by
    rw [a6]
    have : ∀ k, k < 18 → (c_rc k = 3 ↔ 15 ≤ k) := by decide +kernel
    exact propext (this k (by omega))
  obtain ⟨F, hF⟩ : ∃ F, F = e_up f1 82 (4 * t + p) (nI out.length) := ⟨_, rfl⟩
  have KF : KZ t f F := by rw [hF]; exact U1.kz.trans (KZ.up82 (by omega))
  have F76 : F 76 = f1 76 := by rw [hF, e_up_row (by decide)]
  have lead : ∀ (c : Nat → Int32 → Int32 → e_G → Option (Int32 × e_G)) (b : Int32), J_X11_text_60 c SS 76 (nI p) b (f1, r) = if b = 0 then J_X11_text_93 c SS 76 (nI p) (F, r) else (f_X11_eRead SS 76 (F, r)).bind fun q10 => if q10.1 = 0 then J_X11_text_93 c SS 76 (nI p) q10.2 else J_X11_text_94 c SS 76 (nI p) 1 q10.2 := by
    intro c b
    unfold J_X11_text_60
    rw [r82_ hG, Option.bind_some, gI_ok ob11, Option.bind_some, gI_ok ob11, Option.bind_some, show (f1, r).1 76 9 = nI t from b9, show (f1, r).1 76 26 = nI out.length from b26, x82 ht (p := p) (by omega) rfl, Option.bind_some, ← hF]
  have off : ∀ g, J_X11_text_93 (L_X11_text_26 (m + 1) SS) SS 76 (nI p) g = J_X11_text_122 SS 76 0 g := by
    intro g
    unfold J_X11_text_93 J_X11_text_94
    rw [L_X11_text_26]
    unfold J_X11_text_101
    split
    · rw [if_pos rfl]
    · rw [if_pos rfl, if_pos rfl]
  by_cases y : k = 15 + p
  · have v21 : f1 76 21 = nI p := by rw [a8 (by omega)]; congr 1; omega
    rw [if_pos (show (f1, r).1 76 20 = 3 from k15.mpr (by omega)), gI_ok ob11, Option.bind_some, if_pos (show (f1, r).1 76 21 = nI p from v21), lead, if_neg (show ¬ (1 : Int32) = 0 by decide)]
    have k0 : k ≠ 0 := by omega
    rw [if_neg k0] at hq hl hT'
    have q0 := l4 k0
    unfold p_expect at hq
    rw [show p_tok (.inr ((k, pl, va) :: c_toks T z nn nx, out)) = k from rfl, if_pos y] at hq
    have hq : p_part (.inr (c_toks T z nn nx, out)) = q := hq
    have hl : (c_toks T z nn nx).length + 1 + out.length ≤ 161 := hl
    have tw : TW (c_toks T z nn nx) := by
      rcases hT'.2.2.2 with e | e
      · exact absurd e.1 k0
      · exact e.2
    obtain ⟨s1, s2⟩ := sim_part tw (by omega) out
    obtain ⟨H, hH⟩ : ∃ H, H = e_up (e_up F 76 24 0) 76 25 0 := ⟨_, rfl⟩
    have KH : KZ t F H := by rw [hH]; exact (KZ.up76 (by decide)).trans (KZ.up76 (by decide))
    have Hk : ∀ j, j ≠ 24 → j ≠ 25 → H 76 j = f1 76 j := fun j h1 h2 => by rw [hH, e_up_ne (Or.inr h2), e_up_ne (Or.inr h1), F76]
    have Hr : ∀ b, b ≠ 76 → b ≠ 82 → H b = f1 b := fun b h1 h2 => by rw [hH, e_up_row h1, e_up_row h1, hF, e_up_row h2]
    have H82 : H 82 = F 82 := by rw [hH, e_up_row (by decide), e_up_row (by decide)]
    have hB : RB t H [] 0 out := ⟨(Hk 9 (by decide) (by decide)).trans b9, by rw [hH, e_up_ne (Or.inr (by decide)), e_up_eq]; rfl, by rw [hH, e_up_eq]; rfl, (Hk 26 (by decide) (by decide)).trans b26, fun j hj => absurd hj (by simp), fun q hq => absurd hq (by simp), fun j hj => by rw [Hr 81 (by decide) (by decide), a2 81 (by decide)]; exact hc j hj, Nat.zero_le _, by decide⟩
    have NH : ND H T z := ⟨(Hk 6 (by decide) (by decide)).trans N1.1, N1.2.1, fun j hj => by rw [Hr 80 (by decide) (by decide)]; exact N1.2.2.1 j hj, fun j hj => by rw [Hr 89 (by decide) (by decide)]; exact N1.2.2.2 j hj⟩
    obtain ⟨v, f3, e1, e2, e3⟩ := rb_run hG ht nn true true [] 0 out H 50000 nx hB NH ((Hk 18 (by decide) (by decide)).trans a4) l3 (by omega) (by show 0 + out.length + _ ≤ 198; omega) (by omega)
    have eR : f_X11_eRead SS 76 (F, r) = some (v, (f3, r)) := by
      unfold f_X11_eRead
      rw [if_pos ob11, sI_ok ob11, Option.bind_some, sI_ok ob11, Option.bind_some, ← e1, hH]
      rfl
    rw [eR, Option.bind_some]
    have K3 : KZ t f f3 := (KF.trans KH).trans e2.kz
    have r9 : f3 76 9 = nI t := (e2.2.1 9 (by decide)).trans ((Hk 9 (by decide) (by decide)).trans b9)
    refine ⟨f3, K3, r9, fun a e => ?_, fun ts' out' e => ?_⟩
    · rw [s1 a (hq.trans e)] at e3
      obtain ⟨rfl, e4, -⟩ := e3
      rw [if_pos rfl, off]
      exact ⟨rfl, e4⟩
    · obtain ⟨u1, -⟩ := s2 ts' out' (hq.trans e)
      rw [u1] at e3
      obtain ⟨rfl, e4, e5, e6, p', nn', e7, e8, e9, e10⟩ := e3
      rw [if_neg (show ¬ (1 : Int32) = 0 by decide)]
      have f82 : f3 82 = F 82 := (e2.1 82 (by decide) (by decide) (by decide)).trans H82
      refine ⟨by unfold J_X11_text_94; rw [nI_1], ⟨r9, e4, e6, e2.nd NH, p', z + 1, e7, e8, by omega, by have := hN.2.1; omega, by rw [e10]; exact c_toks_fuel _ _ _ e7 e9 (by omega)⟩, by rw [f82, hF, e_up_eq], fun i hi => by rw [f82, hF, e_up_ne (Or.inr hi), a2 82 (by decide)]⟩
  · have bad : ∃ f', KZ t f f' ∧ f' 76 9 = nI t ∧ (∀ a, q = .inl a → J_X11_text_59 (L_X11_text_26 (m + 1) SS) SS 76 (nI p) (f1, r) = J_X11_text_122 SS 76 0 (f', r) ∧ f' 76 19 = nI a) ∧ ∀ ts' out', q = .inr (ts', out') → J_X11_text_59 (L_X11_text_26 (m + 1) SS) SS 76 (nI p) (f1, r) = L_X11_text_26 (m + 1) SS 76 1 (nI (p + 1)) (f', r) ∧ RS t T z f' ts' out' ∧ f' 82 (4 * t + p) = nI out.length ∧ ∀ i, i ≠ 4 * t + p → f' 82 i = f 82 i := by
      unfold p_expect at hq
      rw [show p_tok (.inr ((k, pl, va) :: (if k = 0 then [] else c_toks T z nn nx), out)) = k from rfl, if_neg y, show p_fail (.inr ((k, pl, va) :: (if k = 0 then [] else c_toks T z nn nx), out)) = .inl pl from rfl, p_part_inl] at hq
      refine ⟨F, KF, by rw [F76]; exact b9, fun a e => ?_, fun ts' out' e => by rw [e] at hq; cases hq⟩
      rw [e] at hq
      cases hq
      unfold J_X11_text_59
      rw [lead, if_pos rfl, off]
      exact ⟨rfl, by rw [F76]; exact a5⟩
    by_cases y3 : 15 ≤ k
    · rw [if_pos (show (f1, r).1 76 20 = 3 from k15.mpr y3), gI_ok ob11, Option.bind_some, if_neg (show ¬ (f1, r).1 76 21 = nI p from fun e => by
        have e : f1 76 21 = nI p := e
        rw [a8 y3] at e
        have := nI_inj (by omega) (by omega) e
        omega)]
      exact bad
    · rw [if_neg (show ¬ (f1, r).1 76 20 = 3 from fun e => y3 (k15.mp e))]
      exact bad
