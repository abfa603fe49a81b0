/-! the class's readers and the reference's machine agree: one value, many values -/
def hd_ (ts : List Tkn) : Nat := p_tok (.inr (ts, []))
def SimOne (k : Nat) (P : PSt → PSt) : Prop := ∀ ts out S mn, TW ts → ts.length ≤ 161 → (mn = false ∨ hd_ ts ≠ 14) → (∀ a, P (.inr (ts, out)) = .inl a → r_run ts true mn S (5 - k) out = .inl a) ∧ ∀ ts' out', P (.inr (ts, out)) = .inr (ts', out') → ∃ E mn', out' = out ++ E ∧ TW ts' ∧ ts'.length < ts.length ∧ p_ev E ∧ (∀ q, q ∈ E → tokR q) ∧ r_run ts true mn S (5 - k) out = r_run ts' false mn' (r_unw 7 S (5 - k) out').1 (r_unw 7 S (5 - k) out').2.1 (r_unw 7 S (5 - k) out').2.2
def Sim_ (c ρ : Nat) (b : Bool) (k : Nat) (P : PSt → PSt) : Prop := ∀ ts out S mn, TW ts → ts.length ≤ 161 → r_ctx c S → (if b = true then mn = true else mn = false ∨ hd_ ts ≠ 14) → (∀ a, P (.inr (ts, out)) = .inl a → r_run ts true mn S (5 - k) out = .inl a) ∧ ∀ ts' out', P (.inr (ts, out)) = .inr (ts', out') → ∃ d Ph mn', out' = out ++ (d ++ r_ops Ph) ∧ TW ts' ∧ ts'.length < ts.length ∧ p_ev (d ++ r_ops Ph) ∧ (∀ q, q ∈ d ++ r_ops Ph → tokR q) ∧ (∀ h, h ∈ Ph → ρ ≤ c_rk h) ∧ r_lk ρ (hd_ ts') Ph ∧ r_run ts true mn S (5 - k) out = r_run ts' false mn' (Ph ++ S) (5 - k + r_cnt Ph) (out ++ d)
theorem tokR_op {op : Nat} (h1 : 2 ≤ op) (h2 : op ≤ 10) : tokR (op, 0) := ⟨⟨h2, fun e => by have e : op = 1 := e; omega⟩, fun e => by have e : op = 0 := e; omega⟩
theorem r_ctx0 (S : List Nat) : r_ctx 1 (0 :: S) := show c_rk 0 < 1 by decide
/-- what `)` or `;` does after an or; what any other token does -/
theorem sim_end {S : List Nat} (hS : S = [] ∨ ∃ S', S = 0 :: S') {h : Tkn} {ts : List Tkn} {mn : Bool} {P : List Nat} {o : Nat} {out : List Emi} (hP : ∀ k, k ∈ P → 1 ≤ c_rk k) (hk : r_lk 1 h.1 P) (h5 : h.1 ≠ 5) (h6 : h.1 ≠ 6) : r_run (h :: ts) false mn (P ++ S) (o + r_cnt P) out = .inl h.2.1 := by
  rw [r_run, if_neg h6, if_neg h5]
  by_cases z : c_sg h.1 = 0
  · rw [if_pos z]
  · rw [if_neg z]
    have r1 : 1 ≤ c_rk (c_sg h.1) := by
      unfold c_rk
      split
      · omega
      · repeat' split
        all_goals omega
    obtain ⟨e4, c4⟩ := hk z r1
    rw [if_pos e4, r_c4_top (by rcases hS with rfl | ⟨S', rfl⟩ <;> first | exact trivial | exact (show c_rk 0 < 4 by decide)) _ _ _ c4, if_pos rfl]
theorem sim_one {k : Nat} (hk : k ≤ 5) {one or : PSt → PSt} (i1 : k ≠ 0 → SimOne (k - 1) one) (i2 : k ≠ 0 → Sim_ 1 1 true (k - 1) or) : SimOne k (p_one k one or) := by
  intro ts out S mn hT hL hm
  match ts, hT, hL, hm with
  | [], hT, _, _ => exact hT.elim
  | h :: ts, hT, hL, hm =>
    have hL : ts.length + 1 ≤ 161 := hL
    obtain ⟨w17, wn, wm, wt⟩ := hT
    have hm : mn = false ∨ h.1 ≠ 14 := hm
    have no14 : ¬ (h.1 = 14 ∧ mn = true) := fun y => by
      rcases hm with e | e
      · rw [e] at y; exact absurd y.2 (by decide)
      · exact e y.1
    have pt : p_tok (.inr (h :: ts, out)) = h.1 := rfl
    have tw : h.1 ≠ 0 → TW ts := fun y => by
      rcases wt with e | e
      · exact absurd e.1 y
      · exact e.2
    unfold p_one
    rw [pt]
    by_cases t23 : h.1 = 2 ∨ h.1 = 3
    · rw [if_pos t23]
      refine ⟨fun a e => (by cases e), fun ts' out' e => ?_⟩
      cases e
      refine ⟨[(h.1 - 2, h.2.2)], mn, rfl, tw (by omega), by simp, ?_, ?_, ?_⟩
      · intro nm st
        rw [evT_cons]
        rcases t23 with e | e
        · rw [if_pos (by omega)]; exact ⟨_, rfl⟩
        · rw [if_neg (by omega), if_pos (by omega)]; exact ⟨_, rfl⟩
      · intro q hq
        rw [List.mem_singleton] at hq
        subst hq
        exact ⟨⟨by show h.1 - 2 ≤ 10; omega, fun e => wm (by have e : h.1 - 2 = 1 := e; omega)⟩, fun e => wn (by have e : h.1 - 2 = 0 := e; omega)⟩
      · rw [r_run, if_pos t23]
        rfl
    · rw [if_neg t23, r_run, if_neg t23, if_neg no14]
      by_cases k0 : k = 0
      · subst k0
        rw [if_pos rfl]
        refine ⟨fun a e => ?_, fun ts' out' e => (by cases e)⟩
        cases e
        split
        · rfl
        · split <;> rfl
      · rw [if_neg k0]
        have o5 : ¬ 5 - k = 5 := by omega
        have o1 : 5 - k + 1 = 5 - (k - 1) := by omega
        by_cases t8 : h.1 = 8
        · rw [if_pos t8, if_pos t8, if_neg o5, o1, show p_step (.inr (h :: ts, out)) = .inr (ts, out) from rfl]
          obtain ⟨j1, j2⟩ := i1 k0 ts out (2 :: S) false (tw (by omega)) (by omega) (Or.inl rfl)
          cases r : one (.inr (ts, out)) with
          | inl a =>
            refine ⟨fun b e => ?_, fun ts' out' e => (by cases e)⟩
            cases e
            exact j1 a r
          | inr q =>
            obtain ⟨ts1, out1⟩ := q
            obtain ⟨E, mn', e1, e2, e3, e4, e5, e6⟩ := j2 ts1 out1 r
            refine ⟨fun b e => (by cases e), fun ts' out' e => ?_⟩
            cases e
            refine ⟨E ++ [(2, 0)], mn', by rw [e1, List.append_assoc], e2, by simp; omega, e4.one (by omega) (by omega), ?_, ?_⟩
            · intro q hq
              rcases List.mem_append.mp hq with hq | hq
              · exact e5 q hq
              · rw [List.mem_singleton] at hq
                subst hq
                exact tokR_op (by omega) (by omega)
            · rw [e6]
              have u : r_unw 7 (2 :: S) (5 - (k - 1)) out1 = r_unw 7 S (5 - k) (out1 ++ [(2, 0)]) := by
                rw [r_unw, if_neg (by decide), if_pos (Or.inr rfl), show 5 - (k - 1) - 1 = 5 - k by omega]
              rw [u]
        · rw [if_neg t8, if_neg t8]
          by_cases t4 : h.1 = 4
          · rw [if_pos t4, if_pos t4, if_neg o5, o1, show p_step (.inr (h :: ts, out)) = .inr (ts, out) from rfl]
            obtain ⟨j1, j2⟩ := i2 k0 ts out (0 :: S) true (tw (by omega)) (by omega) (r_ctx0 S) (by rw [if_pos rfl])
            cases r : or (.inr (ts, out)) with
            | inl a =>
              refine ⟨fun b e => ?_, fun ts' out' e => (by cases e)⟩
              cases e
              exact j1 a r
            | inr q =>
              obtain ⟨ts1, out1⟩ := q
              obtain ⟨d, Ph, mn', e1, e2, e3, e4, e5, e7, e8, e6⟩ := j2 ts1 out1 r
              match ts1, e2, e3, e8, e6 with
              | [], e2, _, _, _ => exact e2.elim
              | g :: ts1, e2, e3, e8, e6 =>
                have e8 : r_lk 1 g.1 Ph := e8
                unfold p_expect
                rw [show p_tok (.inr (g :: ts1, out1)) = g.1 from rfl]
                by_cases g5 : g.1 = 5
                · rw [if_pos g5]
                  refine ⟨fun b e => (by cases e), fun ts' out' e => ?_⟩
                  cases e
                  have tw1 : TW ts1 := by
                    rcases e2.2.2.2 with e | e
                    · omega
                    · exact e.2
                  refine ⟨d ++ r_ops Ph, mn', e1, tw1, by simp at e3 ⊢; omega, e4, e5, ?_⟩
                  rw [e6, r_run, if_neg (by omega), if_pos g5, r_unw_all (r_ctx0 S) Ph _ _ e7]
                  show r_run ts1 false mn' _ _ _ = _
                  rw [show 5 - (k - 1) - 1 = 5 - k by omega, e1, List.append_assoc]
                · rw [if_neg g5]
                  refine ⟨fun b e => ?_, fun ts' out' e => (by cases e)⟩
                  cases e
                  rw [e6]
                  by_cases g6 : g.1 = 6
                  · rw [r_run, if_pos g6, r_unw_all (r_ctx0 S) Ph _ _ e7, if_neg (by simp)]
                  · exact sim_end (Or.inr ⟨S, rfl⟩) e7 e8 g5 g6
          · rw [if_neg t4, if_neg t4]
            refine ⟨fun a e => ?_, fun ts' out' e => (by cases e)⟩
            cases e
            rfl
theorem SimOne.sim {k : Nat} {P : PSt → PSt} (h : SimOne k P) : Sim_ 7 7 false k P := by
  intro ts out S mn hT hL hS hm
  obtain ⟨j1, j2⟩ := h ts out S mn hT hL hm
  refine ⟨j1, fun ts' out' e => ?_⟩
  obtain ⟨E, mn', e1, e2, e3, e4, e5, e6⟩ := j2 ts' out' e
  refine ⟨E, [], mn', by simp [r_ops, e1], e2, e3, by simpa [r_ops] using e4, by simpa [r_ops] using e5, by simp, ?_, ?_⟩
  · intro z y
    exfalso
    have : c_rk (c_sg (hd_ ts')) ≤ 6 := by
      generalize hd_ ts' = t at *
      unfold c_sg at *
      repeat' split
      all_goals first | decide | exact absurd rfl z | skip
      all_goals (simp_all)
    omega
  · rw [e6, r_unw_stop hS, e1]
    rfl
