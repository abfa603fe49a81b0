/-! the calls: run, keeps, turn, safe, warn -/
/-- a loop that goes on elsewhere, beside a reckoning of pure words -/
theorem loopZ {R σ τ ρ : Type} {L : Nat → Int32 → σ → R} {n : Nat} {I : Nat → τ → σ → Prop} {F : Nat → τ → τ} {C : ρ → R} {P : τ → ρ → Prop}
    (hend : ∀ m t s, I n t s → ∃ q, L (m + 1) (nI n) s = C q ∧ P t q)
    (hstep : ∀ m i t s, i < n → I i t s → ∃ s', L (m + 1) (nI i) s = L m (nI (i + 1)) s' ∧ I (i + 1) (F i t) s') :
    ∀ k i m t s, i + k = n → k < m → I i t s → ∃ q, L m (nI i) s = C q ∧ P (itF F k i t) q := by
  intro k
  induction k with
  | zero =>
    intro i m t s hi hm hI
    obtain ⟨m, rfl⟩ : ∃ q, m = q + 1 := ⟨m - 1, by omega⟩
    have : i = n := by omega
    subst this
    exact hend m t s hI
  | succ k ih =>
    intro i m t s hi hm hI
    obtain ⟨m, rfl⟩ : ∃ q, m = q + 1 := ⟨m - 1, by omega⟩
    obtain ⟨s', h2, h3⟩ := hstep m i t s (by omega) hI
    rw [h2, itF]
    exact ih (i + 1) m _ s' (by omega) (by omega) h3
theorem e_up_up {f : Nat → Nat → Int32} {a k : Nat} {v w : Int32} : e_up (e_up f a k v) a k w = e_up f a k w := by
  funext b j
  unfold e_up
  split <;> rfl
theorem e_up_id {f : Nat → Nat → Int32} {a k : Nat} : e_up f a k (f a k) = f := by
  funext b j
  unfold e_up
  split
  next h => rw [h.1, h.2]
  next => rfl
theorem m_think {f : Nat → Nat → Int32} {r : Nat → Nat → Option Nat} {n : Nat} {tk : Nat → Nat → List (Nat × Int32)} {s : Nat → Nat → Int32} (h : MW f r n tk s) : ∃ f1, f_X11_keepsAll SS 76 (f, r) = some (f1, r) ∧ MW f1 r n tk s ∧ ∀ a, KQ f1 a → ∃ f', f_X11_lays SS 76 (a, r) = some (f', r) ∧ KM f f' := by
  have hG : GG (f, r) := h.1.1
  obtain ⟨f1, c1, c2, c3, c4⟩ := m_keep hG
  refine ⟨f1, c1, h.of (by rw [c2 76 (by omega)]) (by rw [c2 76 (by omega)]) (by rw [c2 76 (by omega)]) (c2 77 (by omega)) (c2 78 (by omega)) (fun k _ => by rw [c2 79 (by omega)]) (c2 81 (by omega)) (c2 82 (by omega)), fun a hq => ?_⟩
  obtain ⟨f', d1, d2, d3, d4, d5⟩ := m_lay (f := a) (r := r) hG
  exact ⟨f', d1, KM.laid c2 c3 c4 hq d2 d3 d4 d5⟩
def w_run (tk : Nat → Nat → List (Nat × Int32)) (n d : Nat) (s : Nat → Nat → Int32) (what : Int32) (p : Nat) : Int32 := if what = 0 then s_bits (w_days tk n d s 6) n else if what = 1 then w_rest tk (w_days tk n d s) n else if what = 2 then s_sum (w_days tk n d s 3) n else w_days tk n d s 3 p
theorem sq_run {f : Nat → Nat → Int32} {r : Nat → Nat → Option Nat} {n : Nat} {tk : Nat → Nat → List (Nat × Int32)} {s : Nat → Nat → Int32} (h : SQ f r 52 n tk s) (hw : w_wf n s) {d : Nat} (hd : d ≤ 40) {what : Int32} {p : Nat} (hp : what = 0 ∨ what = 1 ∨ what = 2 ∨ p < n) : ∃ f', J_X10_run_64 SS 0 (nI d) what (nI p) (f, r) = some (w_run tk n d s what p, (f', r)) ∧ KT f f' := by
  have hG : GG (f, r) := h.cs.1
  have h6 := h.le
  have hS : IsS 60 := Or.inr (Or.inl rfl)
  have r52 : ∀ f, e_gR SS (f, r) 10 0 2 = some 52 := fun f => (rf10 (g := (f, r)) hG).2.2.1
  have r60 : ∀ f, e_gR SS (f, r) 10 0 3 = some 60 := fun f => (rf10 (g := (f, r)) hG).2.2.2.1
  have r63 : ∀ f, e_gR SS (f, r) 7 60 2 = some 63 := fun f => (rfS (g := (f, r)) hG hS).2.2.1
  obtain ⟨f1, a1, a2, a3⟩ := sq_think h hw
  have key := sq_days (L := fun m i a => L_X10_run_78 m SS 0 (nI d) what (nI p) i (a, r)) (P := fun x => ∃ f', x = (w_run tk n d s what p, (f', r)) ∧ KT f f') a3 (d := d) (by omega)
    (fun m f2 b2 b3 => by
      have kt : KT f f2 := a2.trans (KT.kp b2)
      show ∃ x, L_X10_run_78 (m + 1) SS 0 (nI d) what (nI p) (nI d) (f2, r) = some x ∧ ∃ f', x = (w_run tk n d s what p, (f', r)) ∧ KT f f'
      rw [L_X10_run_78, if_pos (nI_le (Nat.le_refl d) (by omega))]
      unfold w_run
      by_cases n0 : what = 0
      · rw [if_pos n0, if_pos n0]
        refine ⟨_, ?_, f2, rfl, kt⟩
        simp only [r60, sq_bits b3, Option.bind_some]
      · rw [if_neg n0, if_neg n0]
        by_cases n1 : what = 1
        · rw [if_pos n1, if_pos n1]
          obtain ⟨f3, c1, c2⟩ := sq_rest b3
          refine ⟨_, ?_, f3, rfl, kt.trans (KT.ke c2)⟩
          simp only [r60, c1, Option.bind_some]
        · rw [if_neg n1, if_neg n1]
          by_cases n2 : what = 2
          · rw [if_pos n2, if_pos n2]
            refine ⟨_, ?_, f2, rfl, kt⟩
            simp only [r60, sq_sum b3, Option.bind_some]
          · rw [if_neg n2, if_neg n2]
            have hpn : p < n := by
              rcases hp with z | z | z | z
              · exact absurd z n0
              · exact absurd z n1
              · exact absurd z n2
              · exact z
            have e3 : f2 63 p = w_days tk n d s 3 p := b3.row (j := 3) (by omega) (by omega) p hpn
            refine ⟨_, ?_, f2, rfl, kt⟩
            simp only [r60, r63, Option.bind_some, aI_ok (arS hS).2.2.1 (show p < 6 by omega) (by omega : 6 < 2 ^ 31), e3])
    (fun m i a b w hi q e => by
      show L_X10_run_78 (m + 1) SS 0 (nI d) what (nI p) (nI i) (a, r) = L_X10_run_78 m SS 0 (nI d) what (nI p) (nI (i + 1)) (b, r)
      rw [L_X10_run_78, if_neg (nI_ge hi (by omega))]
      simp only [r60, e, Option.bind_some, nI_1])
  obtain ⟨x, k1, f', k2, k3⟩ := key
  refine ⟨f', ?_, k3⟩
  unfold J_X10_run_64
  rw [r60, Option.bind_some, r52, Option.bind_some, a1, Option.bind_some, ← k2]
  exact k1
theorem mw_run {f : Nat → Nat → Int32} {r : Nat → Nat → Option Nat} {n : Nat} {tk : Nat → Nat → List (Nat × Int32)} {s : Nat → Nat → Int32} (h : MW f r n tk s) {d : Nat} (hd : d ≤ 40) {what : Int32} {p : Nat} (hp : what = 0 ∨ what = 1 ∨ what = 2 ∨ (p < n ∧ what - 10 = nI p)) : ∃ f', J_X11_run_30 SS 76 (nI d) what 1 (f, r) = some (w_run tk n d s what p, (f', r)) ∧ KM f f' := by
  have hG : GG (f, r) := h.1.1
  have h6 := h.1.2.2
  have r79 : ∀ f, e_gR SS (f, r) 11 76 3 = some 79 := fun f => (rf11 (g := (f, r)) hG).2.2.1
  have k40 : (40 : Int32) = nI 40 := by decide +kernel
  have q1 : s_in (nI d) 0 40 = 1 := by
    unfold s_in
    rw [if_neg (nI_pos (by omega)), if_neg (by rw [k40]; exact nI_nlt (by omega) (by omega))]
  obtain ⟨f1, a1, a2, a3⟩ := m_think h
  obtain ⟨f2, b1, b2, b3⟩ := m_days a2 (d := d) (by omega)
  unfold J_X11_run_30 w_run
  simp only [m_in, Option.bind_some, q1, z10, if_false, a1, b1, J_X11_run_130]
  by_cases n0 : what = 0
  · rw [if_pos n0, if_pos n0]
    obtain ⟨f', d1, d2⟩ := a3 f2 b2
    refine ⟨f', ?_, d2⟩
    simp only [mw_bits b3, Option.bind_some, d1]
  · rw [if_neg n0, if_neg n0]
    by_cases n1 : what = 1
    · rw [if_pos n1, if_pos n1]
      obtain ⟨f3, c1, c2⟩ := m_rest b3
      obtain ⟨f', d1, d2⟩ := a3 f3 (b2.trans (KQ.ka c2))
      refine ⟨f', ?_, d2⟩
      simp only [c1, Option.bind_some, d1]
    · rw [if_neg n1, if_neg n1]
      obtain ⟨f', d1, d2⟩ := a3 f2 b2
      by_cases n2 : what = 2
      · rw [if_pos n2, if_pos n2]
        refine ⟨f', ?_, d2⟩
        simp only [mw_sum b3, Option.bind_some, d1]
      · rw [if_neg n2, if_neg n2]
        obtain ⟨hpn, ep⟩ : p < n ∧ what - 10 = nI p := by
          rcases hp with z | z | z | z
          · exact absurd z n0
          · exact absurd z n1
          · exact absurd z n2
          · exact z
        have e3 : m_N (f2, r) p = w_days tk n d s 3 p := b3.row (j := 3) (by omega) (by omega) p hpn
        refine ⟨f', ?_, d2⟩
        simp only [r79, Option.bind_some, ep, m_aN (f2, r) (show p < 6 by omega), e3, d1]
theorem ok_run : OK_run SS Inv_ := by
  intro g a1 a2 hI
  obtain ⟨f, r⟩ := g
  obtain ⟨n, tc, tz, tk, s, h⟩ := hI
  have h : IN f r n tc tz tk s := h
  have hG : GG (f, r) := h.1.cs.1
  have h6 := h.1.le
  have h10 := rf10 hG
  have hw := h.2.1.2.2.1
  have e0 : ∀ {f1}, IN f1 r n tc tz tk s → f1 76 0 = nI n := fun h => h.2.1.1.2.1
  have k40 : (40 : Int32) = nI 40 := by decide +kernel
  -- n out of its bounds: both refuse
  have bad : ∀ (f : Nat → Nat → Int32) t0 l2, s_in a1 0 40 = 0 → J_X11_run_30 SS 76 a1 l2 t0 (f, r) = some (-100000, (f, r)) := by
    intro f t0 l2 z
    unfold J_X11_run_30
    rw [m_in, Option.bind_some, z, if_pos rfl]
  have badB : s_in a1 0 40 = 0 → f_X11_run SS 76 a1 a2 (f, r) = some (-100000, (f, r)) := by
    intro z
    unfold f_X11_run J_X11_run_25
    rw [if_pos ob11]
    simp only [m_in, Option.bind_some, gI_ok ob11, bad f _ _ z, ite_self]
  have badA : ∀ t0 l3, (a1 < 0 ∨ (¬ a1 < 0 ∧ (40 : Int32) < a1)) → J_X10_run_27 SS 0 a1 a2 l3 t0 (f, r) = some (-100000, (f, r)) := by
    intro t0 l3 z
    unfold J_X10_run_27
    rcases z with z | ⟨z1, z2⟩
    · rw [if_pos z]
    · rw [if_neg z1, if_pos z2]
  have badA2 : (a1 < 0 ∨ (¬ a1 < 0 ∧ (40 : Int32) < a1)) → f_X10_run SS 0 a1 a2 (f, r) = some (-100000, (f, r)) := by
    intro z
    unfold f_X10_run J_X10_run_13 J_X10_run_14
    rw [if_pos ob10]
    simp only [badA _ _ z, ite_self]
  rcases arg3 a1 40 41 40 (by decide +kernel) (by decide +kernel) (by omega) with ⟨q1, q2⟩ | ⟨q1, q2, q3, q4, q5, q6⟩ | ⟨d, hd, rfl, q1, q2, q3, q4, q5, q6⟩
  · exact ask0 h (-100000) (badA2 (Or.inl q1)) (badB q2)
  · exact ask0 h (-100000) (badA2 (Or.inr ⟨q1, q2⟩)) (badB q6)
  · have both : ∀ p, (a2 = 0 ∨ a2 = 1 ∨ a2 = 2 ∨ (p < n ∧ a2 - 10 = nI p)) → (∀ {f1}, IN f1 r n tc tz tk s → f_X10_run SS 0 (nI d) a2 (f1, r) = J_X10_run_64 SS 0 (nI d) a2 (nI p) (f1, r)) → (∀ {f1}, IN f1 r n tc tz tk s → f_X11_run SS 76 (nI d) a2 (f1, r) = J_X11_run_30 SS 76 (nI d) a2 1 (f1, r)) → ∃ (v : Int32) (g1 g2 : e_G), f_X10_run SS 0 (nI d) a2 (f, r) = some (v, g1) ∧ f_X11_run SS 76 (nI d) a2 g1 = some (v, g2) ∧ Inv_ g2 := by
      intro p hp hA hB
      refine ask_ h (w_run tk n d s a2 p) ?_ (fun f1 h1 => ?_)
      · rw [hA h]
        exact sq_run h.1 hw hd (by
          rcases hp with z | z | z | z
          · exact Or.inl z
          · exact Or.inr (Or.inl z)
          · exact Or.inr (Or.inr (Or.inl z))
          · exact Or.inr (Or.inr (Or.inr z.1)))
      · rw [hB h1]
        exact mw_run h1.2.1 hd hp
    rcases arg3 a2 2 3 2 (by decide +kernel) (by decide +kernel) (by omega) with y | y | ⟨k, hk, e, p1, p2, p3, p4, p5, p6⟩
    rotate_left
    rotate_left
    · refine both 0 ?_ (fun h1 => ?_) (fun h1 => ?_)
      · match k, hk with
        | 0, _ => exact Or.inl e
        | 1, _ => exact Or.inr (Or.inl e)
        | 2, _ => exact Or.inr (Or.inr (Or.inl e))
      · unfold f_X10_run J_X10_run_14 J_X10_run_27
        rw [if_pos ob10, if_neg p1, if_neg p2, if_neg (show ¬ (1 : Int32) = 0 by decide), if_neg q1, if_neg q2, if_neg (show ¬ (1 : Int32) = 0 by decide), nI_0]
      · unfold f_X11_run J_X11_run_25
        rw [if_pos ob11, m_in, Option.bind_some, p6, if_neg (show ¬ (1 : Int32) = 0 by decide)]
    all_goals
      have out : s_in a2 0 2 = 0 := by
        first
          | exact y.2
          | exact y.2.2.2.2.2
      have clA : ∀ {f1 : Nat → Nat → Int32}, f_X10_run SS 0 (nI d) a2 (f1, r) = J_X10_run_27 SS 0 (nI d) a2 0 (a2 - 10) (f1, r) := by
        intro f1
        unfold f_X10_run J_X10_run_13 J_X10_run_14
        rw [if_pos ob10]
        first
          | rw [if_pos y.1, if_pos rfl]
          | rw [if_neg y.1, if_pos y.2.1, if_pos rfl]
      have clB : ∀ {f1 : Nat → Nat → Int32}, IN f1 r n tc tz tk s → f_X11_run SS 76 (nI d) a2 (f1, r) = if s_in a2 10 (9 + nI n) = 0 then J_X11_run_30 SS 76 (nI d) a2 0 (f1, r) else J_X11_run_30 SS 76 (nI d) a2 1 (f1, r) := by
        intro f1 h1
        unfold f_X11_run J_X11_run_25
        rw [if_pos ob11]
        simp only [m_in, Option.bind_some, gI_ok ob11, e0 h1, out, if_true]
      have no30 : J_X11_run_30 SS 76 (nI d) a2 0 (f, r) = some (-100000, (f, r)) := by
        unfold J_X11_run_30
        rw [m_in, Option.bind_some, q6, if_neg (show ¬ (1 : Int32) = 0 by decide), if_pos rfl]
      by_cases b10 : a2 < 10
      · have i0 : s_in a2 10 (9 + nI n) = 0 := by
          unfold s_in
          rw [if_pos b10]
        refine ask0 h (-100000) ?_ ?_
        · rw [clA]
          unfold J_X10_run_27
          rw [if_neg q1, if_neg q2, if_pos rfl, if_pos b10]
        · rw [clB h, i0, if_pos rfl, no30]
      · have e9 : (9 : Int32) + nI n = nI (9 + n) := nI_add 9 n
        have k10 := k_10
        rcases s_has_or h6 (a2 - 10) with z | ⟨p, hp, e, z⟩
        · have i0 : s_in a2 10 (9 + nI n) = 0 := by
            unfold s_in
            rw [if_neg b10, e9]
            by_cases y : nI (9 + n) < a2
            · rw [if_pos y]
            · exfalso
              obtain ⟨t, ht, et⟩ := nI_ex (x := a2) (n := 9 + n + 1) (by omega) (fun z1 => b10 (by
                have := Int32.lt_iff_toInt_lt.mp z1
                have k : (10 : Int32).toInt = 10 := by decide +kernel
                have k0 : (0 : Int32).toInt = 0 := by decide +kernel
                exact Int32.lt_iff_toInt_lt.mpr (by omega))) (by
                have h1 : ¬ (nI (9 + n)).toInt < a2.toInt := fun z1 => y (Int32.lt_iff_toInt_lt.mpr z1)
                rw [nI_toInt (by omega)] at h1
                refine Int32.lt_iff_toInt_lt.mpr ?_
                rw [nI_toInt (by omega)]
                omega)
              have t10 : 10 ≤ t := by
                by_cases q : t < 10
                · exfalso
                  apply b10
                  rw [et, k10]
                  exact nI_lt q (by omega)
                · omega
              have : a2 - 10 = nI (t - 10) := by
                rw [et, k10]
                exact (Int32.ofNat_sub _ _ t10).symm
              rw [this, s_has_k h6 (by omega)] at z
              exact absurd z (by decide)
          refine ask0 h (-100000) ?_ ?_
          · rw [clA]
            unfold J_X10_run_27
            rw [if_neg q1, if_neg q2, if_pos rfl, if_neg b10]
            simp only [h10, Option.bind_some, sq_has h.1, z, if_true]
          · rw [clB h, i0, if_pos rfl, no30]
        · have ea : a2 = nI (p + 10) := by
            have : a2 = nI p + 10 := by rw [← e, Int32.sub_add_cancel]
            rw [this]
            exact nI_add p 10
          have i1 : s_in a2 10 (9 + nI n) = 1 := by
            unfold s_in
            rw [if_neg b10, e9, ea, if_neg (nI_nlt (by omega) (by omega))]
          refine both p (Or.inr (Or.inr (Or.inr ⟨hp, e⟩))) (fun {f1} h1 => ?_) (fun {f1} h1 => ?_)
          · rw [clA]
            have h10 := rf10 (show GG (f1, r) from hG)
            unfold J_X10_run_27
            rw [if_neg q1, if_neg q2, if_pos rfl, if_neg b10]
            simp only [h10, Option.bind_some, sq_has h1.1, z, z10, if_false]
            rw [e]
          · rw [clB h1, i1, if_neg (show ¬ (1 : Int32) = 0 by decide)]
theorem ok_keeps : OK_keeps SS Inv_ := by
  intro g a1 hI
  obtain ⟨f, r⟩ := g
  obtain ⟨n, tc, tz, tk, s, h⟩ := hI
  have h : IN f r n tc tz tk s := h
  have hG : GG (f, r) := h.1.cs.1
  have h10 := rf10 hG
  have hw := h.2.1.2.2.1
  have k60 : (60 : Int32) = nI 60 := by decide +kernel
  rcases s_has_or h.1.le a1 with z | ⟨p, hp, rfl, z⟩
  · refine ask0 h (-5) ?_ ?_
    · unfold f_X10_keeps
      rw [if_pos ob10]
      simp only [h10, Option.bind_some, sq_has h.1, z, if_true]
    · unfold f_X11_keeps
      rw [if_pos ob11]
      simp only [mw_one h.2.1, Option.bind_some, z, if_true]
  · refine ask_ h (itE (w_tillF tk n p) (fun _ => -1) 61 0 s) ?_ (fun f1 h1 => ?_)
    · obtain ⟨f1, b1, b2, b3⟩ := sq_think h.1 hw
      obtain ⟨f2, c1, c2⟩ := sq_till b3 hp
      refine ⟨f2, ?_, b2.trans c2⟩
      unfold f_X10_keeps
      rw [if_pos ob10]
      simp only [h10, Option.bind_some, sq_has h.1, z, z10, if_false, b1, c1]
      rcases w_till_or tk n s p with ⟨q1, q2⟩ | ⟨j, hj, q1, q2⟩
      · rw [q1, q2, if_neg (by decide)]
      · rw [q1, q2, if_pos (by rw [k60]; exact nI_le (by omega) (by omega))]
    · obtain ⟨f2, c1, c2⟩ := mw_till h1.2.1 hp
      refine ⟨f2, ?_, c2⟩
      unfold f_X11_keeps
      rw [if_pos ob11]
      simp only [mw_one h1.2.1, Option.bind_some, z, z10, if_false, c1]
/-! turn -/
def w_tF (s : Nat → Nat → Int32) (n p w : Nat) (a : Int32 × Int32) : Int32 × Int32 := if s_opp (s 1 p) (nI w) = 0 then a else if s_meets (s 1) (e_up s 2 p (nI w) 2) n ≤ a.1 then a else (s_meets (s 1) (e_up s 2 p (nI w) 2) n, (100 : Int32) * nI p + nI w)
def w_turnF (s : Nat → Nat → Int32) (n p : Nat) (a : Int32 × Int32) : Int32 × Int32 := itF (w_tF s n p) 20 0 a
def w_turn (s : Nat → Nat → Int32) (n : Nat) : Int32 × Int32 := itF (w_turnF s n) n 0 (s_meets (s 1) (s 2) n, -1)
theorem sq_turnP {f f0 : Nat → Nat → Int32} {r : Nat → Nat → Option Nat} {n : Nat} {tk : Nat → Nat → List (Nat × Int32)} {s : Nat → Nat → Int32} (h : SQ f r 52 n tk s) (k0 : KT f f0) (h60 : SQ f0 r 60 n tk s) {p : Nat} (hp : p < n) (l1 : Int32) (a : Int32 × Int32) (c25 : Nat → Int32 → Int32 → Int32 → Int32 → e_G → Option (Int32 × e_G)) : ∃ f', L_X10_turn_51 c25 50000 SS 0 l1 a.1 a.2 (nI p) 0 (f0, r) = c25 0 l1 (w_turnF s n p a).1 (w_turnF s n p a).2 (nI (p + 1)) (f', r) ∧ KT f f' := by
  have hG : GG (f, r) := h.cs.1
  have h6 := h.le
  have hS : IsS 60 := Or.inr (Or.inl rfl)
  have r52 : ∀ f, e_gR SS (f, r) 10 0 2 = some 52 := fun f => (rf10 (g := (f, r)) hG).2.2.1
  have r60 : ∀ f, e_gR SS (f, r) 10 0 3 = some 60 := fun f => (rf10 (g := (f, r)) hG).2.2.2.1
  have r62 : ∀ f, e_gR SS (f, r) 7 60 1 = some 62 := fun f => (rfS (g := (f, r)) hG hS).2.1
  have s62 : ∀ (f : Nat → Nat → Int32) (v : Int32), e_aS SS (f, r) 0 62 (nI p) v = some (e_up f 62 p v, r) := fun f v => aS_ok (arS hS).2.1 (by omega) (by omega)
  have k20 : (20 : Int32) = nI 20 := by decide +kernel
  have key := loopZ (L := fun m i (a : (Int32 × Int32) × (Nat → Nat → Int32)) => L_X10_turn_51 c25 m SS 0 l1 a.1.1 a.1.2 (nI p) i (a.2, r)) (n := 20) (F := w_tF s n p)
    (I := fun _ t a => a.1 = t ∧ KT f a.2 ∧ ∃ x, SQ a.2 r 60 n tk (e_up s 2 p x)) (C := fun (q : (Int32 × Int32) × (Nat → Nat → Int32)) => c25 0 l1 q.1.1 q.1.2 (nI (p + 1)) (q.2, r)) (P := fun t q => q.1 = t ∧ KT f q.2)
    (fun m t a hI => by
      refine ⟨a, ?_, hI.1, hI.2.1⟩
      show L_X10_turn_51 c25 (m + 1) SS 0 l1 a.1.1 a.1.2 (nI p) (nI 20) (a.2, r) = _
      rw [L_X10_turn_51, k20, if_pos (nI_le (Nat.le_refl 20) (by omega)), nI_1])
    (fun m i t a hi hI => by
      obtain ⟨i1, i2, x, i3⟩ := hI
      have h52 := h.kt (Or.inl rfl) i2
      show ∃ s' : (Int32 × Int32) × (Nat → Nat → Int32), L_X10_turn_51 c25 (m + 1) SS 0 l1 a.1.1 a.1.2 (nI p) (nI i) (a.2, r) = L_X10_turn_51 c25 m SS 0 l1 s'.1.1 s'.1.2 (nI p) (nI (i + 1)) (s'.2, r) ∧ _
      rw [L_X10_turn_51, k20, if_neg (nI_ge hi (by omega)), r52, Option.bind_some, sq_mayLook h52 hp, Option.bind_some]
      by_cases q : s_opp (s 1 p) (nI i) = 0
      · rw [if_pos q]
        exact ⟨a, by rw [J_X10_turn_114, nI_1], by unfold w_tF; rw [if_pos q]; exact i1, i2, x, i3⟩
      · rw [if_neg q, r60, Option.bind_some, r62, Option.bind_some, s62, Option.bind_some, r60, Option.bind_some]
        have i4 := i3.up (j := 2) (by omega) p (nI i)
        rw [e_up_up] at i4
        have em : f_X7_meetings SS 60 (e_up a.2 62 p (nI i), r) = some (s_meets (s 1) (e_up s 2 p (nI i) 2) n, (e_up a.2 62 p (nI i), r)) := sq_meets i4
        rw [em, Option.bind_some]
        have kt : KT f (e_up a.2 62 p (nI i)) := i2.trans (KT.up (j := 2) (by omega))
        by_cases q2 : s_meets (s 1) (e_up s 2 p (nI i) 2) n ≤ a.1.1
        · rw [if_pos q2]
          refine ⟨(a.1, e_up a.2 62 p (nI i)), by rw [J_X10_turn_114, nI_1], ?_, kt, _, i4⟩
          unfold w_tF
          rw [if_neg q, if_pos (by rw [← i1]; exact q2)]
          exact i1
        · rw [if_neg q2]
          refine ⟨((s_meets (s 1) (e_up s 2 p (nI i) 2) n, (100 : Int32) * nI p + nI i), e_up a.2 62 p (nI i)), by rw [J_X10_turn_114, nI_1], ?_, kt, _, i4⟩
          unfold w_tF
          rw [if_neg q, if_neg (by rw [← i1]; exact q2)])
    20 0 50000 a (a, f0) (by omega) (by omega) ⟨rfl, k0, s 2 p, by rw [e_up_id]; exact h60⟩
  have h0 : nI 0 = (0 : Int32) := nI_0
  rw [h0] at key
  obtain ⟨q, k1, k2, k3⟩ := key
  refine ⟨q.2, ?_, k3⟩
  refine k1.trans ?_
  rw [k2]
  rfl
theorem sq_turn {f : Nat → Nat → Int32} {r : Nat → Nat → Option Nat} {n : Nat} {tk : Nat → Nat → List (Nat × Int32)} {s : Nat → Nat → Int32} (h : SQ f r 52 n tk s) (hw : w_wf n s) (l1 : Int32) : ∃ f', L_X10_turn_25 50000 SS 0 l1 (s_meets (s 1) (s 2) n) (-1) 0 (f, r) = some (if l1 = 0 then (w_turn s n).2 else (w_turn s n).1, (f', r)) ∧ KT f f' := by
  have hG : GG (f, r) := h.cs.1
  have h6 := h.le
  have b52 : e_ob SS 7 52 = true := obS (Or.inl rfl)
  have r52 : ∀ f, e_gR SS (f, r) 10 0 2 = some 52 := fun f => (rf10 (g := (f, r)) hG).2.2.1
  have r60 : ∀ f, e_gR SS (f, r) 10 0 3 = some 60 := fun f => (rf10 (g := (f, r)) hG).2.2.2.1
  have key := loopY (L := fun m i (a : (Int32 × Int32) × (Nat → Nat → Int32)) => L_X10_turn_25 m SS 0 l1 a.1.1 a.1.2 i (a.2, r)) (n := n) (F := w_turnF s n)
    (I := fun _ t a => a.1 = t ∧ KT f a.2) (P := fun t q => ∃ f', q = (if l1 = 0 then t.2 else t.1, (f', r)) ∧ KT f f')
    (fun m t a hI => by
      have h52 := h.kt (Or.inl rfl) hI.2
      refine ⟨(if l1 = 0 then t.2 else t.1, (a.2, r)), ?_, a.2, rfl, hI.2⟩
      show L_X10_turn_25 (m + 1) SS 0 l1 a.1.1 a.1.2 (nI n) (a.2, r) = _
      rw [L_X10_turn_25, r52, Option.bind_some, gI_ok b52, Option.bind_some, show (a.2, r).1 52 6 = nI n from h52.n, if_pos (nI_le (Nat.le_refl n) (by omega)), hI.1]
      split <;> rfl)
    (fun m i t a hi hI => by
      have h52 := h.kt (Or.inl rfl) hI.2
      obtain ⟨f1, b1, b2, b3⟩ := sq_think h52 hw
      obtain ⟨f2, c1, c2⟩ := sq_turnP h52 b2 b3 hi l1 t (L_X10_turn_25 m SS)
      refine ⟨(w_turnF s n i t, f2), ?_, rfl, hI.2.trans c2⟩
      show L_X10_turn_25 (m + 1) SS 0 l1 a.1.1 a.1.2 (nI i) (a.2, r) = _
      rw [L_X10_turn_25, r52, Option.bind_some, gI_ok b52, Option.bind_some, show (a.2, r).1 52 6 = nI n from h52.n, if_neg (nI_ge hi (by omega)), r60, Option.bind_some, Option.bind_some, b1, Option.bind_some, hI.1]
      exact c1)
    n 0 50000 (s_meets (s 1) (s 2) n, -1) ((s_meets (s 1) (s 2) n, -1), f) (by omega) (by omega) ⟨rfl, KT.rfl'⟩
  have h0 : nI 0 = (0 : Int32) := nI_0
  rw [h0] at key
  obtain ⟨q, k1, f', k2, k3⟩ := key
  exact ⟨f', k1.trans (by rw [k2]; rfl), k3⟩
theorem KM.under {a b : Nat → Nat → Int32} (h : KM a b) (k : Nat) (v : Int32) : KM (e_up a 79 k v) (e_up b 79 k v) := by
  refine ⟨fun q h1 h2 h3 => by rw [e_up_row h2, e_up_row h2]; exact h.1 q h1 h2 h3, fun j hj => ?_, fun j hj => by rw [e_up_row (by omega), e_up_row (by omega)]; exact h.2.2 j hj⟩
  rw [e_up_at, e_up_at]
  split
  · rfl
  · exact h.2.1 j hj
theorem mw_turnP {f : Nat → Nat → Int32} {r : Nat → Nat → Option Nat} {n : Nat} {tk : Nat → Nat → List (Nat × Int32)} {s : Nat → Nat → Int32} (h : MW f r n tk s) {p : Nat} (hp : p < n) (l1 : Int32) (a : Int32 × Int32) (c22 : Nat → Int32 → Int32 → Int32 → Int32 → e_G → Option (Int32 × e_G)) : ∃ f', L_X11_turn_47 c22 50000 SS 76 l1 a.2 a.1 (nI p) (s 2 p) 0 (f, r) = c22 76 l1 (w_turnF s n p a).2 (w_turnF s n p a).1 (nI (p + 1)) (f', r) ∧ KM f f' := by
  have hG : GG (f, r) := h.1.1
  have h6 := h.1.2.2
  have hp6 := h.lt hp
  have r79 : ∀ f, e_gR SS (f, r) 11 76 3 = some 79 := fun f => (rf11 (g := (f, r)) hG).2.2.1
  have k20 : (20 : Int32) = nI 20 := by decide +kernel
  have st : ∀ (f : Nat → Nat → Int32) v, e_aS SS (f, r) 0 79 ((4 : Int32) * nI p + 1) v = some (e_up f 79 (4 * p + 1) v, r) := fun f v => m_st hp6 (c := 1) (by omega) (by decide +kernel) v
  have was : f 79 (4 * p + 1) = s 2 p := h.row (j := 2) (by omega) (by omega) p hp
  have key := loopZ (L := fun m i (a : (Int32 × Int32) × (Nat → Nat → Int32)) => L_X11_turn_47 c22 m SS 76 l1 a.1.2 a.1.1 (nI p) (s 2 p) i (a.2, r)) (n := 20) (F := w_tF s n p)
    (I := fun _ t a => a.1 = t ∧ KM f (e_up a.2 79 (4 * p + 1) (s 2 p)) ∧ ∃ x, MW a.2 r n tk (e_up s 2 p x)) (C := fun (q : (Int32 × Int32) × (Nat → Nat → Int32)) => c22 76 l1 q.1.2 q.1.1 (nI (p + 1)) (q.2, r)) (P := fun t q => q.1 = t ∧ KM f q.2)
    (fun m t a hI => by
      refine ⟨(a.1, e_up a.2 79 (4 * p + 1) (s 2 p)), ?_, hI.1, hI.2.1⟩
      show L_X11_turn_47 c22 (m + 1) SS 76 l1 a.1.2 a.1.1 (nI p) (s 2 p) (nI 20) (a.2, r) = _
      rw [L_X11_turn_47, k20, if_pos (nI_le (Nat.le_refl 20) (by omega)), r79, Option.bind_some, st, Option.bind_some, nI_1])
    (fun m i t a hi hI => by
      obtain ⟨i1, i2, x, i3⟩ := hI
      have d1 : m_W (a.2, r) p = s 1 p := by
        have : m_W (a.2, r) p = e_up s 2 p x 1 p := i3.row (j := 1) (by omega) (by omega) p hp
        rw [this, e_up_row (by omega)]
      show ∃ s' : (Int32 × Int32) × (Nat → Nat → Int32), L_X11_turn_47 c22 (m + 1) SS 76 l1 a.1.2 a.1.1 (nI p) (s 2 p) (nI i) (a.2, r) = L_X11_turn_47 c22 m SS 76 l1 s'.1.2 s'.1.1 (nI p) (s 2 p) (nI (i + 1)) (s'.2, r) ∧ _
      rw [L_X11_turn_47, k20, if_neg (nI_ge hi (by omega)), r79, Option.bind_some, m_aW (a.2, r) hp6, Option.bind_some, d1, m_acr, Option.bind_some]
      by_cases q : s_opp (s 1 p) (nI i) = 0
      · rw [if_pos q]
        exact ⟨a, by rw [J_X11_turn_122, nI_1], by unfold w_tF; rw [if_pos q]; exact i1, i2, x, i3⟩
      · have q' : s_opp (s 1 p) (nI i) = 1 := by
          rcases s_opp01 (s 1 p) (nI i) with z | z
          · exact absurd z q
          · exact z
        rw [if_neg q, r79, Option.bind_some, st, Option.bind_some]
        have i4 := i3.up (c := 1) (j := 2) (by omega) p (nI i) (by rw [e_up_up]; exact wf_opp h.2.2.1 hp q')
        rw [e_up_up] at i4
        have em : f_X11_metTwos SS 76 (e_up a.2 79 (4 * p + 1) (nI i), r) = some (s_meets (s 1) (e_up s 2 p (nI i) 2) n, (e_up a.2 79 (4 * p + 1) (nI i), r)) := mw_meets i4
        rw [em, Option.bind_some]
        have km : KM f (e_up (e_up a.2 79 (4 * p + 1) (nI i)) 79 (4 * p + 1) (s 2 p)) := by rw [e_up_up]; exact i2
        by_cases q2 : s_meets (s 1) (e_up s 2 p (nI i) 2) n ≤ a.1.1
        · rw [if_pos q2]
          refine ⟨(a.1, e_up a.2 79 (4 * p + 1) (nI i)), by rw [J_X11_turn_108, if_pos q2, J_X11_turn_121, J_X11_turn_122, nI_1], ?_, km, _, i4⟩
          unfold w_tF
          rw [if_neg q, if_pos (by rw [← i1]; exact q2)]
          exact i1
        · rw [if_neg q2]
          refine ⟨((s_meets (s 1) (e_up s 2 p (nI i) 2) n, (100 : Int32) * nI p + nI i), e_up a.2 79 (4 * p + 1) (nI i)), by rw [J_X11_turn_108, if_neg q2, J_X11_turn_121, J_X11_turn_122, nI_1], ?_, km, _, i4⟩
          unfold w_tF
          rw [if_neg q, if_neg (by rw [← i1]; exact q2)])
    20 0 50000 a (a, f) (by omega) (by omega) ⟨rfl, by show KM f (e_up f 79 (4 * p + 1) (s 2 p)); rw [← was, e_up_id]; exact KM.rfl', s 2 p, by rw [e_up_id]; exact h⟩
  have h0 : nI 0 = (0 : Int32) := nI_0
  rw [h0] at key
  obtain ⟨q, k1, k2, k3⟩ := key
  refine ⟨q.2, ?_, k3⟩
  refine k1.trans ?_
  rw [k2]
  rfl
theorem mw_turn {f : Nat → Nat → Int32} {r : Nat → Nat → Option Nat} {n : Nat} {tk : Nat → Nat → List (Nat × Int32)} {s : Nat → Nat → Int32} (h : MW f r n tk s) (l1 : Int32) : ∃ f', L_X11_turn_22 50000 SS 76 l1 (-1) (s_meets (s 1) (s 2) n) 0 (f, r) = some (if l1 = 0 then (w_turn s n).2 else (w_turn s n).1, (f', r)) ∧ KM f f' := by
  have hG : GG (f, r) := h.1.1
  have h6 := h.1.2.2
  have r79 : ∀ f, e_gR SS (f, r) 11 76 3 = some 79 := fun f => (rf11 (g := (f, r)) hG).2.2.1
  have key := loopY (L := fun m i (a : (Int32 × Int32) × (Nat → Nat → Int32)) => L_X11_turn_22 m SS 76 l1 a.1.2 a.1.1 i (a.2, r)) (n := n) (F := w_turnF s n)
    (I := fun _ t a => a.1 = t ∧ KM f a.2) (P := fun t q => ∃ f', q = (if l1 = 0 then t.2 else t.1, (f', r)) ∧ KM f f')
    (fun m t a hI => by
      have h1 := h.km hI.2
      refine ⟨(if l1 = 0 then t.2 else t.1, (a.2, r)), ?_, a.2, rfl, hI.2⟩
      show L_X11_turn_22 (m + 1) SS 76 l1 a.1.2 a.1.1 (nI n) (a.2, r) = _
      rw [L_X11_turn_22, gI_ok ob11, Option.bind_some, show (a.2, r).1 76 0 = nI n from h1.1.2.1, if_pos (nI_le (Nat.le_refl n) (by omega)), hI.1]
      split <;> rfl)
    (fun m i t a hi hI => by
      have h1 := h.km hI.2
      obtain ⟨f2, c1, c2⟩ := mw_turnP h1 hi l1 t (L_X11_turn_22 m SS)
      have d2 : m_L (a.2, r) i = s 2 i := h1.row (j := 2) (by omega) (by omega) i hi
      refine ⟨(w_turnF s n i t, f2), ?_, rfl, hI.2.trans c2⟩
      show L_X11_turn_22 (m + 1) SS 76 l1 a.1.2 a.1.1 (nI i) (a.2, r) = _
      rw [L_X11_turn_22, gI_ok ob11, Option.bind_some, show (a.2, r).1 76 0 = nI n from h1.1.2.1, if_neg (nI_ge hi (by omega)), r79, Option.bind_some, m_aL (a.2, r) (show i < 6 by omega), Option.bind_some, d2, hI.1]
      exact c1)
    n 0 50000 (s_meets (s 1) (s 2) n, -1) ((s_meets (s 1) (s 2) n, -1), f) (by omega) (by omega) ⟨rfl, KM.rfl'⟩
  have h0 : nI 0 = (0 : Int32) := nI_0
  rw [h0] at key
  obtain ⟨q, k1, f', k2, k3⟩ := key
  exact ⟨f', k1.trans (by rw [k2]; rfl), k3⟩
theorem ok_turn : OK_turn SS Inv_ := by
  intro g a1 hI
  obtain ⟨f, r⟩ := g
  obtain ⟨n, tc, tz, tk, s, h⟩ := hI
  have h : IN f r n tc tz tk s := h
  have hG : GG (f, r) := h.1.cs.1
  have h10 := rf10 hG
  have hw := h.2.1.2.2.1
  rcases arg3 a1 1 2 1 (by decide +kernel) (by decide +kernel) (by omega) with ⟨q1, q2⟩ | ⟨q1, q2, q3, q4, q5, q6⟩ | ⟨d, hd, e, q1, q2, q3, q4, q5, q6⟩
  · exact ask0 h (-2) (by unfold f_X10_turn; rw [if_pos ob10, if_pos q1]) (by unfold f_X11_turn; rw [if_pos ob11, m_in, Option.bind_some, q2]; rfl)
  · exact ask0 h (-2) (by unfold f_X10_turn; rw [if_pos ob10, if_neg q1, if_neg q4]) (by unfold f_X11_turn; rw [if_pos ob11, m_in, Option.bind_some, q6]; rfl)
  · refine ask_ h (if a1 = 0 then (w_turn s n).2 else (w_turn s n).1) ?_ (fun f1 h1 => ?_)
    · obtain ⟨f2, c1, c2⟩ := sq_turn h.1 hw a1
      refine ⟨f2, ?_, c2⟩
      unfold f_X10_turn
      rw [if_pos ob10, if_neg q1, if_pos q4, h10.2.2.1, Option.bind_some, sq_meets h.1, Option.bind_some]
      exact c1
    · obtain ⟨f2, c1, c2⟩ := mw_turn h1.2.1 a1
      refine ⟨f2, ?_, c2⟩
      unfold f_X11_turn
      rw [if_pos ob11, m_in, Option.bind_some, q6, if_neg (show ¬ (1 : Int32) = 0 by decide), mw_meets h1.2.1, Option.bind_some]
      exact c1
