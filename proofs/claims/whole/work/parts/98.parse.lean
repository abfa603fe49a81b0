/-! the text, pure: the class's readers, the reference's machine, and that they agree -/
abbrev Tkn := Nat × Nat × Int32
abbrev Emi := Nat × Int32
abbrev PSt := Sum Nat (List Tkn × List Emi)
/-- the sign between two values that a token is, as the class numbers it -/
def c_sg (t : Nat) : Nat := if t = 13 then 10 else if t = 12 then 9 else if t = 10 then 7 else if t = 11 then 8 else if t = 7 then 5 else if t = 8 then 6 else if t = 9 then 4 else 0
def c_rk (h : Nat) : Nat := if h = 0 then 0 else if h = 10 then 1 else if h = 9 then 2 else if h = 3 then 3 else if h = 7 then 4 else if h = 8 then 4 else if h = 5 then 5 else if h = 6 then 5 else if h = 4 then 6 else 7
def p_tok : PSt → Nat
  | .inr (h :: _, _) => h.1
  | _ => 1
def p_val : PSt → Int32
  | .inr (h :: _, _) => h.2.2
  | _ => 0
def p_step : PSt → PSt
  | .inr (_ :: ts, o) => .inr (ts, o)
  | s => s
def p_add (op : Nat) (v : Int32) : PSt → PSt
  | .inr (ts, o) => .inr (ts, o ++ [(op, v)])
  | s => s
def p_fail : PSt → PSt
  | .inr (h :: _, _) => .inl h.2.1
  | s => s
def p_expect (k : Nat) (s : PSt) : PSt := if p_tok s = k then p_step s else p_fail s
def p_one (k : Nat) (one or : PSt → PSt) (s : PSt) : PSt := if p_tok s = 2 ∨ p_tok s = 3 then p_step (p_add (p_tok s - 2) (p_val s) s) else if k = 0 then p_fail s else if p_tok s = 8 then p_add 2 0 (one (p_step s)) else if p_tok s = 4 then p_expect 5 (or (p_step s)) else p_fail s
def p_op (ρ t : Nat) : Nat := if c_rk (c_sg t) = ρ then c_sg t else 0
def p_loop (ρ : Nat) (q : PSt → PSt) : Nat → PSt → PSt
  | 0, s => s
  | n + 1, s => if p_op ρ (p_tok s) = 0 then s else p_loop ρ q n (p_add (p_op ρ (p_tok s)) 0 (q (p_step s)))
def p_many (ρ : Nat) (q : PSt → PSt) (s : PSt) : PSt := p_loop ρ q 160 (q s)
def p_cmp (sum : PSt → PSt) (s : PSt) : PSt := if p_tok s = 10 then p_add 7 0 (sum (p_step s)) else if p_tok s = 11 then p_add 8 0 (sum (p_step s)) else s
def p_not (k : Nat) (not sum : PSt → PSt) (s : PSt) : PSt := if p_tok s = 14 then (if k = 0 then p_fail s else p_add 3 0 (not (p_step s))) else p_cmp sum (sum s)
def p_sum (one : PSt → PSt) : PSt → PSt := p_many 5 (p_many 6 one)
def p_or (not : PSt → PSt) : PSt → PSt := p_many 1 (p_many 2 not)
/-- one value, a not, an or, with so many left to open -/
def p_rd : Nat → (PSt → PSt) × (PSt → PSt) × (PSt → PSt)
  | 0 => (p_one 0 id id, p_not 0 id (p_sum (p_one 0 id id)), p_or (p_not 0 id (p_sum (p_one 0 id id))))
  | k + 1 => (p_one (k + 1) (p_rd k).1 (p_rd k).2.2, p_not (k + 1) (p_rd k).2.1 (p_sum (p_one (k + 1) (p_rd k).1 (p_rd k).2.2)), p_or (p_not (k + 1) (p_rd k).2.1 (p_sum (p_one (k + 1) (p_rd k).1 (p_rd k).2.2))))
/-- the reference: what is held is laid out down to a rank -/
def r_unw (R : Nat) : List Nat → Nat → List Emi → List Nat × Nat × List Emi
  | [], o, out => ([], o, out)
  | h :: S, o, out => if c_rk h < R then (h :: S, o, out) else r_unw R S (if h = 3 ∨ h = 2 then o - 1 else o) (out ++ [(h, 0)])
def r_top4 : List Nat → Bool
  | [] => false
  | h :: _ => c_rk h == 4
def r_run : List Tkn → Bool → Bool → List Nat → Nat → List Emi → PSt
  | [], _, _, _, _, _ => .inl 0
  | h :: ts, true, mn, S, o, out =>
    if h.1 = 2 ∨ h.1 = 3 then r_run ts false mn (r_unw 7 S o (out ++ [(h.1 - 2, h.2.2)])).1 (r_unw 7 S o (out ++ [(h.1 - 2, h.2.2)])).2.1 (r_unw 7 S o (out ++ [(h.1 - 2, h.2.2)])).2.2
    else if h.1 = 14 ∧ mn = true then (if o = 5 then .inl h.2.1 else r_run ts true mn (3 :: S) (o + 1) out)
    else if h.1 = 8 then (if o = 5 then .inl h.2.1 else r_run ts true false (2 :: S) (o + 1) out)
    else if h.1 = 4 then (if o = 5 then .inl h.2.1 else r_run ts true true (0 :: S) (o + 1) out)
    else .inl h.2.1
  | h :: ts, false, mn, S, o, out =>
    if h.1 = 6 then (if (r_unw 1 S o out).1 = [] then .inr (ts, (r_unw 1 S o out).2.2) else .inl h.2.1)
    else if h.1 = 5 then (match (r_unw 1 S o out).1 with
      | [] => .inl h.2.1
      | _ :: S' => r_run ts false mn (r_unw 7 S' ((r_unw 1 S o out).2.1 - 1) (r_unw 1 S o out).2.2).1 (r_unw 7 S' ((r_unw 1 S o out).2.1 - 1) (r_unw 1 S o out).2.2).2.1 (r_unw 7 S' ((r_unw 1 S o out).2.1 - 1) (r_unw 1 S o out).2.2).2.2)
    else if c_sg h.1 = 0 then .inl h.2.1
    else if c_rk (c_sg h.1) = 4 then (if r_top4 (r_unw 5 S o out).1 = true then .inl h.2.1 else r_run ts true false (c_sg h.1 :: (r_unw 5 S o out).1) (r_unw 5 S o out).2.1 (r_unw 5 S o out).2.2)
    else r_run ts true (decide (9 ≤ c_sg h.1)) (c_sg h.1 :: (r_unw (c_rk (c_sg h.1)) S o out).1) (r_unw (c_rk (c_sg h.1)) S o out).2.1 (r_unw (c_rk (c_sg h.1)) S o out).2.2
/-- the tokens of a text -/
def TW : List Tkn → Prop
  | [] => False
  | h :: ts => h.1 ≤ 17 ∧ (h.1 = 2 → ∃ k, k ≤ 99999 ∧ h.2.2 = nI k) ∧ (h.1 = 3 → ∃ k, k < 6 ∧ h.2.2 = nI k) ∧ ((h.1 = 0 ∧ ts = []) ∨ (h.1 ≠ 0 ∧ TW ts))
def p_ev (E : List Emi) : Prop := ∀ (nm : Nat → Int32) (st : List Int32), ∃ v, evT nm E st = some (v :: st)
def r_ops (P : List Nat) : List Emi := P.map fun h => (h, (0 : Int32))
def r_cnt : List Nat → Nat
  | [] => 0
  | h :: P => r_cnt P + if h = 3 ∨ h = 2 then 1 else 0
def r_c4 : List Nat → Prop
  | [] => False
  | h :: P => if 5 ≤ c_rk h then r_c4 P else c_rk h = 4
def r_lk (ρ t : Nat) (P : List Nat) : Prop := c_sg t ≠ 0 → ρ ≤ c_rk (c_sg t) → c_rk (c_sg t) = 4 ∧ r_c4 P
def r_ctx (c : Nat) : List Nat → Prop
  | [] => True
  | h :: _ => c_rk h < c
theorem r_ctx.le {c c' : Nat} (h : c ≤ c') : ∀ {S : List Nat}, r_ctx c S → r_ctx c' S
  | [], _ => trivial
  | _ :: _, q => Nat.lt_of_lt_of_le q h
theorem r_unw_stop {R : Nat} : ∀ {S : List Nat} {o : Nat} {out : List Emi}, r_ctx R S → r_unw R S o out = (S, o, out)
  | [], _, _, _ => rfl
  | h :: _, _, _, q => by rw [r_unw, if_pos (show c_rk h < R from q)]
theorem r_unw_all {R : Nat} {S : List Nat} (hS : r_ctx R S) : ∀ (P : List Nat) (o : Nat) (out : List Emi), (∀ h, h ∈ P → R ≤ c_rk h) → r_unw R (P ++ S) (o + r_cnt P) out = (S, o, out ++ r_ops P) := by
  intro P
  induction P with
  | nil => intro o out _; simp only [List.nil_append, r_cnt, Nat.add_zero, r_ops, List.map_nil, List.append_nil]; exact r_unw_stop hS
  | cons h P ih =>
    intro o out hP
    have h1 := hP h (by simp)
    rw [List.cons_append, r_unw, if_neg (by omega)]
    have e : (if h = 3 ∨ h = 2 then o + r_cnt (h :: P) - 1 else o + r_cnt (h :: P)) = o + r_cnt P := by
      rw [r_cnt]
      by_cases y : h = 3 ∨ h = 2
      · rw [if_pos y, if_pos y]; omega
      · rw [if_neg y, if_neg y]; omega
    rw [e, ih o _ (fun k hk => hP k (by simp [hk]))]
    simp [r_ops]
theorem r_cnt_app (P Q : List Nat) : r_cnt (P ++ Q) = r_cnt P + r_cnt Q := by
  induction P with
  | nil => simp [r_cnt]
  | cons h P ih => rw [List.cons_append, r_cnt, r_cnt, ih]; omega
theorem r_c4_app {P Q : List Nat} (h : r_c4 P) : r_c4 (P ++ Q) := by
  induction P with
  | nil => exact h.elim
  | cons k P ih =>
    rw [List.cons_append]
    unfold r_c4 at h ⊢
    split at h
    next y => rw [if_pos y]; exact ih h
    next y => rw [if_neg y]; exact h
theorem r_c4_all {P : List Nat} (hP : ∀ h, h ∈ P → 5 ≤ c_rk h) {k : Nat} (hk : c_rk k = 4) (Q : List Nat) : r_c4 (P ++ k :: Q) := by
  induction P with
  | nil => rw [List.nil_append]; unfold r_c4; rw [if_neg (by omega)]; exact hk
  | cons h P ih => rw [List.cons_append]; unfold r_c4; rw [if_pos (hP h (by simp))]; exact ih (fun q hq => hP q (by simp [hq]))
theorem r_c4_top {S : List Nat} (hS : r_ctx 4 S) : ∀ (P : List Nat) (o : Nat) (out : List Emi), r_c4 P → r_top4 (r_unw 5 (P ++ S) o out).1 = true := by
  intro P
  induction P with
  | nil => intro o out h; exact h.elim
  | cons k P ih =>
    intro o out h
    rw [List.cons_append, r_unw]
    unfold r_c4 at h
    split at h
    next y => rw [if_neg (by omega)]; exact ih _ _ h
    next y =>
      rw [if_pos (by omega)]
      show (c_rk k == 4) = true
      rw [h]
      rfl
theorem evT_app (nm : Nat → Int32) : ∀ (a b : List Emi) (st : List Int32), evT nm (a ++ b) st = (evT nm a st).bind fun s => evT nm b s := by
  intro a
  induction a with
  | nil => intro b st; rw [List.nil_append, evT]; rfl
  | cons q a ih =>
    intro b st
    obtain ⟨op, v⟩ := q
    rw [List.cons_append, evT_cons, evT_cons]
    split
    · exact ih _ _
    · split
      · exact ih _ _
      · split
        · cases st with
          | nil => rfl
          | cons x st => exact ih _ _
        · match st with
          | [] => rfl
          | [x] => rfl
          | y :: x :: st => exact ih _ _
theorem p_ev.one {E : List Emi} (h : p_ev E) {op : Nat} (h1 : 2 ≤ op) (h2 : op ≤ 3) : p_ev (E ++ [(op, 0)]) := by
  intro nm st
  obtain ⟨v, e⟩ := h nm st
  refine ⟨t_one op v, ?_⟩
  rw [evT_app, e, Option.bind_some, evT_cons, if_neg (by omega), if_neg (by omega), if_pos h2]
  rfl
theorem p_ev.two {A B : List Emi} (hA : p_ev A) (hB : p_ev B) {op : Nat} (h1 : 4 ≤ op) : p_ev (A ++ (B ++ [(op, 0)])) := by
  intro nm st
  obtain ⟨x, e1⟩ := hA nm st
  obtain ⟨y, e2⟩ := hB nm (x :: st)
  refine ⟨t_two op x y, ?_⟩
  rw [evT_app, e1, Option.bind_some, evT_app, e2, Option.bind_some, evT_cons, if_neg (by omega), if_neg (by omega), if_neg (by omega)]
  rfl
