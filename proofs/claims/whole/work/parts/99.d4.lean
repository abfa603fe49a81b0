/-! untangle: the class -/
theorem u_M_it (P : Nat → Bool) : ∀ n, itF (fun p (t : List Nat) => t ++ if P p = true then [p] else []) n 0 [] = u_M P n := by
  intro n
  induction n with
  | zero => rfl
  | succ n ih => rw [itF_next, ih, u_M]
def w_P (s : Nat → Nat → Int32) (sd : Int32) (p : Nat) : Bool := decide (s 1 p / 10 = sd)
theorem x10_gather {f : Nat → Nat → Int32} {r : Nat → Nat → Option Nat} {n : Nat} {tk : Nat → Nat → List (Nat × Int32)} {s : Nat → Nat → Int32} (h : SQ f r 52 n tk s) (sd : Int32) : ∃ f', f_X10_gatherMembers SS 0 sd (f, r) = some (nI (u_M (w_P s sd) n).length, (f', r)) ∧ (∀ b, b ≠ 5 → b ≠ 6 → f' b = f b) ∧ MD f' (fun k => (u_M (w_P s sd) n).getD k 0) (u_M (w_P s sd) n).length ∧ OD f' (fun k => k) (u_M (w_P s sd) n).length := by
  have hG : GG (f, r) := h.cs.1
  have n6 := h.le
  have b52 : e_ob SS 7 52 = true := obS (Or.inl rfl)
  have r52 : ∀ f, e_gR SS (f, r) 10 0 2 = some 52 := fun f => (rf10 (g := (f, r)) hG).2.2.1
  have r53 : ∀ f, e_gR SS (f, r) 7 52 0 = some 53 := fun f => (rfS (g := (f, r)) hG (Or.inl rfl)).1
  have key := loopY (L := fun q i (x : Int32 × (Nat → Nat → Int32)) => L_X10_gatherMembers_4 q SS 0 sd x.1 i (x.2, r)) (n := n) (F := fun p (t : List Nat) => t ++ if w_P s sd p = true then [p] else [])
    (I := fun i t x => x.1 = nI t.length ∧ t.length ≤ i ∧ (∀ b, b ≠ 5 → b ≠ 6 → x.2 b = f b) ∧ ∀ k, k < t.length → x.2 5 k = nI (t.getD k 0) ∧ x.2 6 k = nI k)
    (P := fun t q => ∃ f', q = (nI t.length, (f', r)) ∧ t.length ≤ n ∧ (∀ b, b ≠ 5 → b ≠ 6 → f' b = f b) ∧ ∀ k, k < t.length → f' 5 k = nI (t.getD k 0) ∧ f' 6 k = nI k)
    (fun q t x hI => by
      obtain ⟨i1, i2, i3, i4⟩ := hI
      refine ⟨(nI t.length, (x.2, r)), ?_, x.2, rfl, i2, i3, i4⟩
      show L_X10_gatherMembers_4 (q + 1) SS 0 sd x.1 (nI n) (x.2, r) = _
      rw [L_X10_gatherMembers_4, r52, Option.bind_some, gI_ok b52, Option.bind_some, show (x.2, r).1 52 6 = nI n by show x.2 52 6 = _; rw [i3 52 (by omega) (by omega)]; exact h.n, if_pos (nI_le (Nat.le_refl n) (by omega)), i1])
    (fun q i t x hi hI => by
      obtain ⟨i1, i2, i3, i4⟩ := hI
      have e53 : x.2 53 i = s 1 i := by rw [i3 53 (by omega) (by omega)]; exact h.row (j := 1) (by omega) (by omega) i hi
      show ∃ s' : Int32 × (Nat → Nat → Int32), L_X10_gatherMembers_4 (q + 1) SS 0 sd x.1 (nI i) (x.2, r) = L_X10_gatherMembers_4 q SS 0 sd s'.1 (nI (i + 1)) (s'.2, r) ∧ _
      rw [L_X10_gatherMembers_4, r52, Option.bind_some, gI_ok b52, Option.bind_some, show (x.2, r).1 52 6 = nI n by show x.2 52 6 = _; rw [i3 52 (by omega) (by omega)]; exact h.n, if_neg (nI_ge hi (by omega)), Option.bind_some, r53, Option.bind_some, aI_ok (arS (Or.inl rfl)).1 (show i < 6 by omega) (by omega), Option.bind_some, show (x.2, r).1 (52 + 1) i = s 1 i from e53]
      by_cases y : s 1 i / 10 = sd
      · have y' : w_P s sd i = true := decide_eq_true y
        rw [if_pos y, r105 hG, Option.bind_some, i1, s5_ (by omega), Option.bind_some, r106 hG, Option.bind_some, s6_ (by omega), Option.bind_some, J_X10_gatherMembers_51, nI_1, nI_1]
        refine ⟨(nI (t.length + 1), e_up (e_up x.2 5 t.length (nI i)) 6 t.length (nI t.length)), rfl, ?_⟩
        show _ ∧ (t ++ if w_P s sd i = true then [i] else []).length ≤ _ ∧ _
        rw [if_pos y']
        refine ⟨by rw [List.length_append]; rfl, by rw [List.length_append]; show t.length + 1 ≤ _; omega, fun b h5 h6 => by show e_up (e_up x.2 5 t.length (nI i)) 6 t.length (nI t.length) b = _; rw [e_up_row h6, e_up_row h5]; exact i3 b h5 h6, fun k hk => ?_⟩
        rw [List.length_append] at hk
        have hk : k < t.length + 1 := hk
        show e_up (e_up x.2 5 t.length (nI i)) 6 t.length (nI t.length) 5 k = _ ∧ e_up (e_up x.2 5 t.length (nI i)) 6 t.length (nI t.length) 6 k = _
        rw [e_up_ne (Or.inl (by omega)), e_up_at, e_up_at, e_up_row (by omega)]
        by_cases z : k = t.length
        · rw [if_pos z, if_pos z, z, gd_one rfl]
          exact ⟨rfl, rfl⟩
        · rw [if_neg z, if_neg z, gd_app (by omega)]
          exact i4 k (by omega)
      · have y' : ¬ w_P s sd i = true := fun e => y (of_decide_eq_true e)
        rw [if_neg y, J_X10_gatherMembers_51, nI_1]
        refine ⟨x, rfl, ?_⟩
        show _ ∧ (t ++ if w_P s sd i = true then [i] else []).length ≤ _ ∧ _
        rw [if_neg y', List.append_nil]
        exact ⟨i1, by omega, i3, i4⟩)
    n 0 50000 [] ((0 : Int32), f) (by omega) (by omega) ⟨nI_0.symm, by simp, fun _ _ _ => rfl, fun k hk => absurd hk (by simp)⟩
  have h0 : nI 0 = (0 : Int32) := nI_0
  rw [h0, u_M_it] at key
  obtain ⟨q, k1, f', k2, k3, k4, k5⟩ := key
  refine ⟨f', ?_, k4, fun k hk => (k5 k hk).1, fun k hk => ⟨by show k < 6; omega, (k5 k hk).2⟩⟩
  unfold f_X10_gatherMembers
  rw [if_pos ob10]
  exact k1.trans (by rw [k2])
/-- the best so far (how few cross, the order's digits), past a number -/
def w_unt (s : Nat → Nat → Int32) (M : Nat → Nat) (m n : Nat) (num : Nat) (a : Int32 × Int32) : Int32 × Int32 := if u_pm m m num 0 = true then (if a.1 ≤ w_C s M (u_q m num) m n then a else (w_C s M (u_q m num) m n, nI (u_dc (u_q m num) m))) else a
theorem OD.eq {f : Nat → Nat → Int32} {a b : Nat → Nat} {m : Nat} (h : OD f a m) (e : ∀ k, k < m → a k = b k) : OD f b m := fun k hk => by rw [← e k hk]; exact h k hk
theorem u_all_eq {a b : Nat → Nat} {m : Nat} (h : u_all (fun k => Nat.beq (a k) (b k)) m = true) : ∀ k, k < m → a k = b k := fun k hk => Nat.eq_of_beq_eq_true (u_all_sp h k hk)
theorem x10_unt {f0 : Nat → Nat → Int32} {r : Nat → Nat → Option Nat} {n : Nat} {tk : Nat → Nat → List (Nat × Int32)} {s : Nat → Nat → Int32} (h : SQ f0 r 52 n tk s) {M : Nat → Nat} {m : Nat} (m1 : 1 ≤ m) (m6 : m ≤ 6) (hM : MJ M m n) (l2 : Int32) {n1 c1 : Nat} (hE : u_end m n1 = true) : ∀ k num n0 c, u_go m k num n0 c = some (n1, c1) → c ≤ 719 → ∀ f t fu (a : Int32 × Int32), KT6 f0 f → SQ f r 60 n tk t → UO s M m t → MD f M m → OD f (u_q m n0) m → c < fu → ∃ f', L_X10_untangle_57 fu SS 0 l2 (nI m) a.1 a.2 (nI (720 - c)) (f, r) = some (if l2 = 0 then (itF (w_unt s M m n) k num a).2 else (itF (w_unt s M m n) k num a).1, (f', r)) ∧ KT6 f0 f' := by
  have hG : GG (f0, r) := h.cs.1
  have r60 : ∀ f, e_gR SS (f, r) 10 0 3 = some 60 := fun f => (rf10 (g := (f, r)) hG).2.2.2.1
  have k720 : (720 : Int32) = nI 720 := by decide +kernel
  intro k
  induction k with
  | zero =>
    intro num n0 c hg hc f t fu a kt h60 hU hD hO hf
    cases hg
    obtain ⟨fu, rfl⟩ : ∃ q, fu = q + 1 := ⟨fu - 1, by omega⟩
    have fin : ∀ g : e_G, J_X10_untangle_111 SS l2 a.1 a.2 g = some (if l2 = 0 then (itF (w_unt s M m n) 0 num a).2 else (itF (w_unt s M m n) 0 num a).1, g) := by
      intro g
      unfold J_X10_untangle_111
      show _ = some (if l2 = 0 then a.2 else a.1, g)
      by_cases y : l2 = 0
      · rw [if_pos y, if_pos y]
      · rw [if_neg y, if_neg y]
    refine ⟨f, ?_, kt⟩
    rw [L_X10_untangle_57, k720]
    by_cases y : c1 = 0
    · subst y
      rw [if_pos (nI_le (Nat.le_refl 720) (by omega)), fin]
    · have e : u_nx m (u_q m n1) = none := by
        unfold u_end at hE
        cases q : u_nx m (u_q m n1) with
        | none => rfl
        | some a => rw [q] at hE; exact absurd (show false = true from hE) (by decide)
      rw [if_neg (nI_ge (show 720 - c1 < 720 by omega) (by omega)), (x10_next hG m1 m6 hO).1 e, Option.bind_some, if_pos rfl, fin]
  | succ k ih =>
    intro num n0 c hg hc f t fu a kt h60 hU hD hO hf
    rw [u_go] at hg
    unfold u_st at hg
    rw [itF]
    by_cases y : u_pm m m num 0 = true
    rotate_left
    · rw [if_neg y] at hg
      have e : w_unt s M m n num a = a := by unfold w_unt; rw [if_neg y]
      rw [e]
      exact ih (num + 1) n0 c hg hc f t fu a kt h60 hU hD hO hf
    · rw [if_pos y] at hg
      by_cases yd : u_dk m num = true
      rotate_left
      · rw [if_neg yd] at hg; cases hg
      rw [if_pos yd] at hg
      match c, hc, hf, hg with
      | 0, _, _, hg => cases hg
      | c + 1, hc, hf, hg =>
        have hg : (match (if c = 719 then (if u_idn m num = true then some (num, 719) else none) else if u_ok m n0 num = true then some (num, c) else none : Option (Nat × Nat)) with
          | none => none
          | some q => u_go m k (num + 1) q.1 q.2) = some (n1, c1) := hg
        rw [if_neg (by omega)] at hg
        by_cases yo : u_ok m n0 num = true
        rotate_left
        · rw [if_neg yo] at hg; cases hg
        rw [if_pos yo] at hg
        have hg : u_go m k (num + 1) num c = some (n1, c1) := hg
        obtain ⟨a', ea, eq⟩ : ∃ a', u_nx m (u_q m n0) = some a' ∧ ∀ k, k < m → a' k = u_q m num k := by
          unfold u_ok at yo
          cases q : u_nx m (u_q m n0) with
          | none => rw [q] at yo; exact absurd (show false = true from yo) (by decide)
          | some a' => rw [q] at yo; exact ⟨a', rfl, u_all_eq yo⟩
        obtain ⟨fu, rfl⟩ : ∃ q, fu = q + 1 := ⟨fu - 1, by omega⟩
        obtain ⟨f1, b1, b2, b3⟩ := (x10_next hG m1 m6 hO).2 a' ea
        have hO1 : OD f1 (u_q m num) m := b3.eq eq
        have kt1 : KT6 f0 f1 := kt.trans (KT6.of fun b _ q _ => b2 b q)
        have h601 : SQ f1 r 60 n tk t := h60.o56 (fun b _ q => b2 b q) (by omega)
        have hD1 : MD f1 M m := fun k hk => by rw [b2 5 (by omega)]; exact hD k hk
        obtain ⟨f2, d1, d2, d3⟩ := x10_give (h.kt6 (Or.inl rfl) kt1) h601 m6 hM (fun k _ => u_q_lt (by omega) num k) hD1 hO1
        have kt2 : KT6 f0 f2 := kt1.trans (KT6.of fun b _ _ q => d2 b q)
        obtain ⟨u1, u2⟩ := w_giv_us (a := u_q m num) hM hU m (Nat.le_refl m)
        have cr := sq_cross d3
        rw [US.cross hM ⟨u1, u2⟩] at cr
        have hD2 : MD f2 M m := fun k hk => by rw [d2 5 (by omega)]; exact hD1 k hk
        have hO2 : OD f2 (u_q m num) m := fun k hk => by rw [d2 6 (by omega)]; exact hO1 k hk
        have step : ∀ a' : Int32 × Int32, J_X10_untangle_105 (L_X10_untangle_57 fu SS) SS 0 l2 (nI m) a'.1 a'.2 (nI (720 - (c + 1))) (f2, r) = L_X10_untangle_57 fu SS 0 l2 (nI m) a'.1 a'.2 (nI (720 - c)) (f2, r) := fun a' => by
          rw [J_X10_untangle_105, nI_1, show 720 - (c + 1) + 1 = 720 - c by omega]
        have fin := fun a' => ih (num + 1) num c hg (by omega) f2 _ fu a' kt2 d3 u1 hD2 hO2 (by omega)
        rw [L_X10_untangle_57, k720, if_neg (nI_ge (show 720 - (c + 1) < 720 by omega) (by omega)), b1, Option.bind_some, if_neg (show ¬ (1 : Int32) = 0 by decide), d1, Option.bind_some, r60, Option.bind_some, cr, Option.bind_some]
        unfold w_unt
        rw [if_pos y]
        by_cases z : a.1 ≤ w_C s M (u_q m num) m n
        · rw [if_pos z, if_pos z]
          obtain ⟨f', e1, e2⟩ := fin a
          exact ⟨f', (step a).trans e1, e2⟩
        · rw [if_neg z, if_neg z, x10_digits hG m6 hO2, Option.bind_some]
          obtain ⟨f', e1, e2⟩ := fin (w_C s M (u_q m num) m n, nI (u_dc (u_q m num) m))
          exact ⟨f', (step (w_C s M (u_q m num) m n, nI (u_dc (u_q m num) m))).trans e1, e2⟩
