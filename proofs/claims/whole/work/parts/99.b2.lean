/-! the class's readers and the reference's machine agree: many of a rank, a not -/
theorem p_loop_inl {ρ : Nat} (h : 1 ≤ ρ) (q : PSt → PSt) (a : Nat) : ∀ n, p_loop ρ q n (.inl a) = .inl a := by
  intro n
  cases n with
  | zero => rfl
  | succ n =>
    rw [p_loop, if_pos]
    unfold p_op
    rw [if_neg]
    show ¬ 0 = ρ
    omega
theorem sg_range (t : Nat) : c_sg t = 0 ∨ (4 ≤ c_sg t ∧ c_sg t ≤ 10 ∧ 7 ≤ t) := by
  unfold c_sg
  repeat' split
  all_goals omega
theorem sg_rank : ∀ s, s < 11 → 4 ≤ s → (9 ≤ s ↔ c_rk s ≤ 2) ∧ c_rk s ≤ 6 ∧ 1 ≤ c_rk s ∧ c_rk s ≠ 3 := by decide
theorem r_lk.app {ρ t : Nat} {P : List Nat} (h : r_lk ρ t P) (Q : List Nat) : r_lk ρ t (P ++ Q) := fun z y => ⟨(h z y).1, r_c4_app (h z y).2⟩
theorem sim_loop {c ρ k : Nat} {b : Bool} {q : PSt → PSt} (hq : Sim_ c (ρ + 1) b k q) (hb : (b = true ∧ ρ ≤ 2) ∨ (b = false ∧ 5 ≤ ρ)) (h1 : 1 ≤ ρ) (h4 : ρ ≠ 4) (hc : ρ < c) {S : List Nat} (hS : r_ctx ρ S) {out : List Emi} : ∀ n ts1 out1 d Ph mn1, out1 = out ++ (d ++ r_ops Ph) → TW ts1 → ts1.length ≤ n → n ≤ 160 → p_ev (d ++ r_ops Ph) → (∀ q, q ∈ d ++ r_ops Ph → tokR q) → (∀ h, h ∈ Ph → ρ ≤ c_rk h) → r_lk (ρ + 1) (hd_ ts1) Ph → (∀ a, p_loop ρ q n (.inr (ts1, out1)) = .inl a → r_run ts1 false mn1 (Ph ++ S) (5 - k + r_cnt Ph) (out ++ d) = .inl a) ∧ ∀ ts' out', p_loop ρ q n (.inr (ts1, out1)) = .inr (ts', out') → ∃ d' Ph' mn', out' = out ++ (d' ++ r_ops Ph') ∧ TW ts' ∧ ts'.length ≤ ts1.length ∧ p_ev (d' ++ r_ops Ph') ∧ (∀ q, q ∈ d' ++ r_ops Ph' → tokR q) ∧ (∀ h, h ∈ Ph' → ρ ≤ c_rk h) ∧ r_lk ρ (hd_ ts') Ph' ∧ r_run ts1 false mn1 (Ph ++ S) (5 - k + r_cnt Ph) (out ++ d) = r_run ts' false mn' (Ph' ++ S) (5 - k + r_cnt Ph') (out ++ d') := by
  intro n
  induction n with
  | zero =>
    intro ts1 out1 d Ph mn1 _ hT hl
    match ts1, hT, hl with
    | [], hT, _ => exact hT.elim
    | _ :: _, _, hl => simp at hl
  | succ n ih =>
    intro ts1 out1 d Ph mn1 eo hT hl hn hev htr hrk hlk
    match ts1, hT, hl, hlk with
    | [], hT, _, _ => exact hT.elim
    | g :: ts2, hT, hl, hlk =>
      have hl : ts2.length + 1 ≤ n + 1 := hl
      have hlk : r_lk (ρ + 1) g.1 Ph := hlk
      rw [p_loop, show p_tok (.inr (g :: ts2, out1)) = g.1 from rfl]
      rcases sg_range g.1 with z | ⟨s1, s2, s3⟩
      · have z' : p_op ρ g.1 = 0 := by unfold p_op; rw [z, ite_self]
        rw [if_pos z']
        refine ⟨fun a e => (by cases e), fun ts' out' e => ?_⟩
        cases e
        exact ⟨d, Ph, mn1, eo, hT, Nat.le_refl _, hev, htr, hrk, fun y => absurd z y, rfl⟩
      · by_cases y : c_rk (c_sg g.1) = ρ
        · have z' : p_op ρ g.1 = c_sg g.1 := by unfold p_op; rw [if_pos y]
          rw [z', if_neg (by omega), show p_step (.inr (g :: ts2, out1)) = .inr (ts2, out1) from rfl]
          have tw : TW ts2 := by
            rcases hT.2.2.2 with e | e
            · omega
            · exact e.2
          have sr := sg_rank _ (by omega : c_sg g.1 < 11) s1
          have step : r_run (g :: ts2) false mn1 (Ph ++ S) (5 - k + r_cnt Ph) (out ++ d) = r_run ts2 true (decide (9 ≤ c_sg g.1)) (c_sg g.1 :: S) (5 - k) out1 := by
            rw [r_run, if_neg (by omega), if_neg (by omega), if_neg (by omega), if_neg (by omega), y, r_unw_all hS Ph _ _ hrk, eo, List.append_assoc]
          have ctx : r_ctx c (c_sg g.1 :: S) := show c_rk (c_sg g.1) < c by omega
          have cond : if b = true then decide (9 ≤ c_sg g.1) = true else decide (9 ≤ c_sg g.1) = false ∨ hd_ ts2 ≠ 14 := by
            rcases hb with ⟨e, r⟩ | ⟨e, r⟩
            · rw [if_pos e]; exact decide_eq_true (sr.1.mpr (by omega))
            · rw [if_neg (by rw [e]; decide)]
              exact Or.inl (decide_eq_false (fun w => by have := sr.1.mp w; omega))
          obtain ⟨j1, j2⟩ := hq ts2 out1 (c_sg g.1 :: S) (decide (9 ≤ c_sg g.1)) tw (by omega) ctx cond
          rw [step]
          cases r : q (.inr (ts2, out1)) with
          | inl a =>
            rw [show p_add (c_sg g.1) 0 (.inl a) = .inl a from rfl, p_loop_inl h1]
            refine ⟨fun b e => ?_, fun ts' out' e => (by cases e)⟩
            cases e
            exact j1 a r
          | inr w =>
            obtain ⟨ts3, out3⟩ := w
            obtain ⟨d3, P3, mn3, e1, e2, e3, e4, e5, e7, e8, e6⟩ := j2 ts3 out3 r
            rw [show p_add (c_sg g.1) 0 (.inr (ts3, out3)) = .inr (ts3, out3 ++ [(c_sg g.1, 0)]) from rfl]
            have eE : (d ++ r_ops Ph ++ d3) ++ r_ops (P3 ++ [c_sg g.1]) = (d ++ r_ops Ph) ++ ((d3 ++ r_ops P3) ++ [(c_sg g.1, 0)]) := by simp [r_ops]
            have := ih ts3 (out3 ++ [(c_sg g.1, 0)]) (d ++ r_ops Ph ++ d3) (P3 ++ [c_sg g.1]) mn3 (by rw [eE, e1, eo]; simp) e2 (by omega) (by omega) (by rw [eE]; exact hev.two e4 s1) (by
              rw [eE]
              intro q hq
              rcases List.mem_append.mp hq with hq | hq
              · exact htr q hq
              · rcases List.mem_append.mp hq with hq | hq
                · exact e5 q hq
                · rw [List.mem_singleton] at hq
                  subst hq
                  exact tokR_op (by omega) s2) (by
              intro h hh
              rcases List.mem_append.mp hh with hh | hh
              · have := e7 h hh; omega
              · rw [List.mem_singleton] at hh
                subst hh
                omega) (e8.app _)
            have eS : (P3 ++ [c_sg g.1]) ++ S = P3 ++ c_sg g.1 :: S := by simp
            have ec : r_cnt (P3 ++ [c_sg g.1]) = r_cnt P3 := by
              rw [r_cnt_app]
              show r_cnt P3 + (0 + if c_sg g.1 = 3 ∨ c_sg g.1 = 2 then 1 else 0) = _
              rw [if_neg (by omega)]
              omega
            have eo1 : out ++ (d ++ r_ops Ph ++ d3) = out1 ++ d3 := by rw [eo]; simp
            rw [eS, ec, eo1, ← e6] at this
            refine ⟨this.1, fun ts' out' e => ?_⟩
            obtain ⟨d', P', mn', a1, a2, a3, a4⟩ := this.2 ts' out' e
            exact ⟨d', P', mn', a1, a2, by show ts'.length ≤ ts2.length + 1; omega, a4⟩
        · have z' : p_op ρ g.1 = 0 := by unfold p_op; rw [if_neg y]
          rw [if_pos z']
          refine ⟨fun a e => (by cases e), fun ts' out' e => ?_⟩
          cases e
          exact ⟨d, Ph, mn1, eo, hT, Nat.le_refl _, hev, htr, hrk, fun y1 y2 => hlk y1 (by have y2 : ρ ≤ c_rk (c_sg g.1) := y2; omega), rfl⟩
theorem sim_many {c ρ k : Nat} {b : Bool} {q : PSt → PSt} (hq : Sim_ c (ρ + 1) b k q) (hb : (b = true ∧ ρ ≤ 2) ∨ (b = false ∧ 5 ≤ ρ)) (h1 : 1 ≤ ρ) (h4 : ρ ≠ 4) (hc : ρ < c) : Sim_ ρ ρ b k (p_many ρ q) := by
  intro ts out S mn hT hL hS hm
  obtain ⟨j1, j2⟩ := hq ts out S mn hT hL (hS.le (by omega)) hm
  unfold p_many
  cases r : q (.inr (ts, out)) with
  | inl a =>
    rw [p_loop_inl h1]
    refine ⟨fun b e => ?_, fun ts' out' e => (by cases e)⟩
    cases e
    exact j1 a r
  | inr w =>
    obtain ⟨ts1, out1⟩ := w
    obtain ⟨d, P, mn1, e1, e2, e3, e4, e5, e7, e8, e6⟩ := j2 ts1 out1 r
    have := sim_loop hq hb h1 h4 hc hS (out := out) 160 ts1 out1 d P mn1 e1 e2 (by omega) (by omega) e4 e5 (fun h hh => by have := e7 h hh; omega) e8
    rw [← e6] at this
    refine ⟨this.1, fun ts' out' e => ?_⟩
    obtain ⟨d', P', mn', a1, a2, a3, a4⟩ := this.2 ts' out' e
    exact ⟨d', P', mn', a1, a2, by omega, a4⟩
theorem sim_not {k : Nat} (hk : k ≤ 5) {not sum : PSt → PSt} (i1 : k ≠ 0 → Sim_ 4 3 true (k - 1) not) (hs : Sim_ 5 5 false k sum) (ai : ∀ a, sum (.inl a) = .inl a) : Sim_ 4 3 true k (p_not k not sum) := by
  intro ts out S mn hT hL hS hm
  rw [if_pos rfl] at hm
  subst hm
  match ts, hT, hL with
  | [], hT, _ => exact hT.elim
  | h :: ts, hT, hL =>
    have hL : ts.length + 1 ≤ 161 := hL
    unfold p_not
    rw [show p_tok (.inr (h :: ts, out)) = h.1 from rfl]
    by_cases t14 : h.1 = 14
    · have tw : TW ts := by
        rcases hT.2.2.2 with e | e
        · omega
        · exact e.2
      have rr : r_run (h :: ts) true true S (5 - k) out = if 5 - k = 5 then .inl h.2.1 else r_run ts true true (3 :: S) (5 - k + 1) out := by rw [r_run, if_neg (by omega), if_pos ⟨t14, rfl⟩]
      rw [if_pos t14, rr]
      by_cases k0 : k = 0
      · subst k0
        rw [if_pos (show (0 : Nat) = 0 from rfl), if_pos (show 5 - 0 = 5 from rfl)]
        refine ⟨fun b e => ?_, fun ts' out' e => (by cases e)⟩
        cases e
        rfl
      · rw [if_neg k0, if_neg (show ¬ 5 - k = 5 by omega), show 5 - k + 1 = 5 - (k - 1) by omega, show p_step (.inr (h :: ts, out)) = .inr (ts, out) from rfl]
        obtain ⟨j1, j2⟩ := i1 k0 ts out (3 :: S) true tw (by omega) (show c_rk 3 < 4 by decide) (by rw [if_pos rfl])
        cases r : not (.inr (ts, out)) with
        | inl a =>
          refine ⟨fun b e => ?_, fun ts' out' e => (by cases e)⟩
          cases e
          exact j1 a r
        | inr w =>
          obtain ⟨ts1, out1⟩ := w
          obtain ⟨d, P, mn1, e1, e2, e3, e4, e5, e7, e8, e6⟩ := j2 ts1 out1 r
          refine ⟨fun b e => (by cases e), fun ts' out' e => ?_⟩
          cases e
          have eE : d ++ r_ops (P ++ [3]) = (d ++ r_ops P) ++ [(3, 0)] := by simp [r_ops]
          refine ⟨d, P ++ [3], mn1, by rw [eE, e1]; simp, e2, by show _ < ts.length + 1; omega, by rw [eE]; exact e4.one (by omega) (by omega), ?_, ?_, e8.app _, ?_⟩
          · rw [eE]
            intro q hq
            rcases List.mem_append.mp hq with hq | hq
            · exact e5 q hq
            · rw [List.mem_singleton] at hq
              subst hq
              exact tokR_op (by omega) (by omega)
          · intro q hq
            rcases List.mem_append.mp hq with hq | hq
            · exact e7 q hq
            · rw [List.mem_singleton] at hq
              subst hq
              decide
          · have eS : (P ++ [3]) ++ S = P ++ 3 :: S := by simp
            have ec : 5 - k + r_cnt (P ++ [3]) = 5 - (k - 1) + r_cnt P := by
              rw [r_cnt_app, show r_cnt [3] = 1 from rfl]
              omega
            rw [e6, eS, ec]
    · rw [if_neg t14]
      obtain ⟨j1, j2⟩ := hs (h :: ts) out S true hT hL (hS.le (by omega)) (by rw [if_neg (by decide)]; exact Or.inr t14)
      cases r : sum (.inr (h :: ts, out)) with
      | inl a =>
        rw [show p_cmp sum (.inl a) = .inl a from rfl]
        refine ⟨fun b e => ?_, fun ts' out' e => (by cases e)⟩
        cases e
        exact j1 a r
      | inr w =>
        obtain ⟨ts1, out1⟩ := w
        obtain ⟨d, P, mn1, e1, e2, e3, e4, e5, e7, e8, e6⟩ := j2 ts1 out1 r
        match ts1, e2, e3, e8, e6 with
        | [], e2, _, _, _ => exact e2.elim
        | g :: ts1, e2, e3, e8, e6 =>
          have e3 : ts1.length + 1 < ts.length + 1 := e3
          have e8 : r_lk 5 g.1 P := e8
          have go : ∀ op, (op = 7 ∨ op = 8) → c_sg g.1 = op → (∀ a, p_add op 0 (sum (.inr (ts1, out1))) = .inl a → r_run (h :: ts) true true S (5 - k) out = .inl a) ∧ ∀ ts' out', p_add op 0 (sum (.inr (ts1, out1))) = .inr (ts', out') → ∃ d Ph mn', out' = out ++ (d ++ r_ops Ph) ∧ TW ts' ∧ ts'.length < (h :: ts).length ∧ p_ev (d ++ r_ops Ph) ∧ (∀ q, q ∈ d ++ r_ops Ph → tokR q) ∧ (∀ h, h ∈ Ph → 3 ≤ c_rk h) ∧ r_lk 3 (hd_ ts') Ph ∧ r_run (h :: ts) true true S (5 - k) out = r_run ts' false mn' (Ph ++ S) (5 - k + r_cnt Ph) (out ++ d) := by
            intro op hop sg
            have rk4 : c_rk op = 4 := by rcases hop with rfl | rfl <;> decide
            have sr := sg_range g.1
            have tw : TW ts1 := by
              rcases e2.2.2.2 with e | e
              · omega
              · exact e.2
            have step : r_run (h :: ts) true true S (5 - k) out = r_run ts1 true false (op :: S) (5 - k) out1 := by
              rw [e6, r_run, if_neg (by omega), if_neg (by omega), if_neg (by omega), if_pos (by rw [sg]; exact rk4), r_unw_all (hS.le (by omega)) P _ _ e7, sg, e1, List.append_assoc, if_neg]
              intro y
              match S, hS, y with
              | [], _, y => exact absurd (show false = true from y) (by decide)
              | s :: S, hS, y =>
                have hS : c_rk s < 4 := hS
                have y : (c_rk s == 4) = true := y
                rw [beq_iff_eq] at y
                omega
            rw [step]
            obtain ⟨i1, i2⟩ := hs ts1 out1 (op :: S) false tw (by omega) (show c_rk op < 5 by omega) (by rw [if_neg (by decide)]; exact Or.inl rfl)
            cases r2 : sum (.inr (ts1, out1)) with
            | inl a =>
              refine ⟨fun b e => ?_, fun ts' out' e => (by cases e)⟩
              cases e
              exact i1 a r2
            | inr w =>
              obtain ⟨ts3, out3⟩ := w
              obtain ⟨d3, P3, mn3, a1, a2, a3, a4, a5, a7, a8, a6⟩ := i2 ts3 out3 r2
              refine ⟨fun b e => (by cases e), fun ts' out' e => ?_⟩
              cases e
              have eE : (d ++ r_ops P ++ d3) ++ r_ops (P3 ++ [op]) = (d ++ r_ops P) ++ ((d3 ++ r_ops P3) ++ [(op, 0)]) := by simp [r_ops]
              refine ⟨d ++ r_ops P ++ d3, P3 ++ [op], mn3, by rw [eE, a1, e1]; simp, a2, by show _ < ts.length + 1; omega, by rw [eE]; exact e4.two a4 (by omega), ?_, ?_, ?_, ?_⟩
              · rw [eE]
                intro q hq
                rcases List.mem_append.mp hq with hq | hq
                · exact e5 q hq
                · rcases List.mem_append.mp hq with hq | hq
                  · exact a5 q hq
                  · rw [List.mem_singleton] at hq
                    subst hq
                    exact tokR_op (by omega) (by omega)
              · intro q hq
                rcases List.mem_append.mp hq with hq | hq
                · have := a7 q hq; omega
                · rw [List.mem_singleton] at hq
                  subst hq
                  omega
              · intro y1 y2
                by_cases y5 : 5 ≤ c_rk (c_sg (hd_ ts3))
                · have := (a8 y1 y5).1; omega
                · have := sg_range (hd_ ts3)
                  have s3 := (sg_rank (c_sg (hd_ ts3)) (by omega) (by omega)).2.2.2
                  exact ⟨by omega, r_c4_all a7 rk4 []⟩
              · have eS : (P3 ++ [op]) ++ S = P3 ++ op :: S := by simp
                have ec : 5 - k + r_cnt (P3 ++ [op]) = 5 - k + r_cnt P3 := by
                  rw [r_cnt_app]
                  show 5 - k + (r_cnt P3 + (0 + if op = 3 ∨ op = 2 then 1 else 0)) = _
                  rw [if_neg (by omega)]
                  omega
                rw [a6, eS, ec, e1]
                simp
          unfold p_cmp
          rw [show p_tok (.inr (g :: ts1, out1)) = g.1 from rfl, show p_step (.inr (g :: ts1, out1)) = .inr (ts1, out1) from rfl]
          by_cases g10 : g.1 = 10
          · rw [if_pos g10]
            exact go 7 (Or.inl rfl) (by rw [g10]; rfl)
          · rw [if_neg g10]
            by_cases g11 : g.1 = 11
            · rw [if_pos g11]
              exact go 8 (Or.inr rfl) (by rw [g11]; rfl)
            · rw [if_neg g11]
              refine ⟨fun b e => (by cases e), fun ts' out' e => ?_⟩
              cases e
              refine ⟨d, P, mn1, e1, e2, e3, e4, e5, fun q hq => by have := e7 q hq; omega, fun y1 y2 => ?_, e6⟩
              have y1 : c_sg g.1 ≠ 0 := y1
              have y2 : 3 ≤ c_rk (c_sg g.1) := y2
              by_cases y5 : 5 ≤ c_rk (c_sg g.1)
              · have := (e8 y1 y5).1; omega
              · exfalso
                have : ∀ t, t < 18 → t ≠ 10 → t ≠ 11 → c_sg t ≠ 0 → c_rk (c_sg t) ≤ 2 ∨ 5 ≤ c_rk (c_sg t) := by decide
                have := this g.1 (by have := e2.1; omega) g10 g11 y1
                omega
