theorem nI_ex {x : Int32} {n : Nat} (hn : n < 2 ^ 31) (h0 : ¬ x < 0) (h1 : x < nI n) : ∃ t, t < n ∧ x = nI t := by
  refine ⟨x.toNatClampNeg, ?_, ?_⟩
  · have a := Int32.lt_iff_toInt_lt.mp h1
    have b : ¬ x.toInt < 0 := fun q => h0 (Int32.lt_iff_toInt_lt.mpr (by simpa using q))
    rw [nI_toInt hn] at a
    have : x.toNatClampNeg = x.toInt.toNat := rfl
    omega
  · have b : ¬ x.toInt < 0 := fun q => h0 (Int32.lt_iff_toInt_lt.mpr (by simpa using q))
    have a := Int32.lt_iff_toInt_lt.mp h1
    rw [nI_toInt hn] at a
    have e : x.toNatClampNeg = x.toInt.toNat := rfl
    apply Int32.toInt_inj.mp
    rw [nI_toInt (by omega), e]
    omega
/-- a place that no scratch of the class's reckoning touches -/
def NS (b : Nat) : Prop := b ≠ 10 ∧ b ≠ 15 ∧ b ≠ 20 ∧ b ≠ 25 ∧ b ≠ 30 ∧ b ≠ 35 ∧ b ≠ 59 ∧ b ≠ 67 ∧ b ≠ 75
def KE (f f' : Nat → Nat → Int32) : Prop := ∀ b, NS b → f' b = f b
theorem KE.rfl' {f : Nat → Nat → Int32} : KE f f := fun _ _ => rfl
theorem KE.trans {f f' f'' : Nat → Nat → Int32} (h : KE f f') (k : KE f' f'') : KE f f'' := fun b hb => (k b hb).trans (h b hb)
theorem KE.S {f f' : Nat → Nat → Int32} (h : KE f f') {o : Nat} (hS : IsS o) {j : Nat} (hj : j < 7) : f' (o + j) = f (o + j) := h _ (by rcases hS with rfl | rfl | rfl <;> (unfold NS; omega))
theorem KE.cs {f f' : Nat → Nat → Int32} {r : Nat → Nat → Option Nat} (h : KE f f') {o n : Nat} (c : CS (f, r) o n) : CS (f', r) o n := ⟨c.1, c.2.1, (congrFun (h.S c.2.1 (j := 0) (by omega)) 6).trans c.2.2.1, c.2.2.2⟩
theorem KE.tx {f f' : Nat → Nat → Int32} {r : Nat → Nat → Option Nat} (h : KE f f') {t : Nat} (ht : t < 6) {tk : Nat → List (Nat × Int32)} (c : TX (f, r) t tk) : TX (f', r) t tk := by
  have a1 : f' (11 + 5 * t) = f (11 + 5 * t) := h _ (by unfold NS; omega)
  have a2 : f' (8 + 5 * t) = f (8 + 5 * t) := h _ (by unfold NS; omega)
  have a3 : f' (9 + 5 * t) = f (9 + 5 * t) := h _ (by unfold NS; omega)
  refine ⟨c.1, fun p hp => ?_, fun p hp j hj => ?_⟩
  · show f' _ _ = _
    rw [a1]
    exact c.2.1 p hp
  · show f' _ _ = _ ∧ f' _ _ = _ ∧ _
    rw [a2, a3]
    exact c.2.2 p hp j hj
/-- the text that a street goes by, if it goes by one -/
def HT (g : e_G) (o : Nat) (tk : Nat → Nat → List (Nat × Int32)) : Prop := ∀ t, t < 6 → g.1 o 8 = nI t → TX g t (tk t) ∧ t_ok (tk t)
theorem KE.ht {f f' : Nat → Nat → Int32} {r : Nat → Nat → Option Nat} (h : KE f f') {o : Nat} (hS : IsS o) {tk : Nat → Nat → List (Nat × Int32)} (c : HT (f, r) o tk) : HT (f', r) o tk := by
  intro t ht e
  have e1 : f' o 8 = f o 8 := congrFun (h.S hS (j := 0) (by omega)) 8
  have := c t ht (e1.symm.trans e)
  exact ⟨h.tx ht this.1, this.2⟩
def s_bound (x lo hi : Int32) : Int32 := i_max lo (i_min hi x)
def s_say (tk : Nat → Nat → List (Nat × Int32)) (tx : Int32) (p : Nat) (nm : Nat → Int32) : Int32 := if tx < 0 then 0 else if tx < nI 6 then s_bound (t_val nm (tk tx.toNatClampNeg p)) (if p = 1 then 0 else -99) 99 else 0
/-- the names of one in a street -/
def s_nm (f : Nat → Nat → Int32) (o n p : Nat) : Nat → Int32 := s_names (f (o + 1)) (f (o + 2)) (f (o + 3)) (f (o + 6)) (f (o + 5)) n (f o 7) p
theorem cs_says {g : e_G} {o n : Nat} (h : CS g o n) {tk : Nat → Nat → List (Nat × Int32)} (hT : HT g o tk) {p : Nat} (hp : p < 6) {q : Nat} (hq : q < 3) :
    ∃ f', f_X7_says SS o (nI q) (nI p) g = some (s_say tk (g.1 o 8) q (s_nm g.1 o n p), (f', g.2)) ∧ KE g.1 f' := by
  have hS := h.2.1
  have hG := h.1
  unfold f_X7_says s_say
  rw [if_pos (obS hS)]
  simp only [gI_ok (obS hS), Option.bind_some]
  by_cases h8 : g.1 o 8 < 0
  · rw [if_pos h8, if_pos h8]
    exact ⟨g.1, rfl, KE.rfl'⟩
  · rw [if_neg h8, if_neg h8]
    simp only [(rfS hG hS).2.2.2.2.2.2.2.2, aL_ok arC.1, Option.bind_some]
    by_cases h9 : g.1 o 8 < nI 6
    · rw [if_pos h9, if_pos h9]
      obtain ⟨t, ht, e⟩ := nI_ex (by omega) h8 h9
      obtain ⟨hX, hk⟩ := hT t ht e
      obtain ⟨f1, a1, a2, a3⟩ := cs_fill h hp
      have k1 : KE g.1 f1 := fun b hb => a2 b (by rcases hS with rfl | rfl | rfl <;> (unfold NS at hb; omega))
      have G1 : GG (f1, g.2) := hG
      have e1 : f1 o 8 = nI t := (congrFun (k1.S hS (j := 0) (by omega)) 8).trans e
      obtain ⟨f2, b1, b2⟩ := x9_value (g := (f1, g.2)) G1 ht (k1.tx ht hX) hk (arS hS).2.2.2.2.2.2 (by rcases hS with rfl | rfl | rfl <;> omega) hq (nm := s_nm g.1 o n p) a3
      refine ⟨f2, ?_, k1.trans fun b hb => b2 b (by unfold NS at hb; omega)⟩
      rw [a1]
      simp only [Option.bind_some, (rfS G1 hS).2.2.2.2.2.2.2.2, (rfS G1 hS).2.2.2.2.2.2.1, gI_ok (obS hS), e1, rfTx G1 ht, b1, e, nI_clamp (show t < 2 ^ 31 by omega)]
      have k1' : (1 : Int32) = nI 1 := by decide +kernel
      by_cases hq1 : q = 1
      · subst hq1
        rw [if_pos k1'.symm, if_pos rfl]
        rfl
      · rw [if_neg (fun z => hq1 (nI_inj (by omega) (by omega) (z.trans k1'))), if_neg hq1]
        rfl
    · rw [if_neg h9, if_neg h9]
      exact ⟨g.1, rfl, KE.rfl'⟩
def s_leanK (k : Nat) (say met day more : Int32) : Int32 := if k = 1 then (if met = 0 then say else say + more) else if k = 3 then 2 * (if met = 0 then say else say + more) else if k = 4 then (if i_rem day 5 = 0 then more else -say) else if k = 5 then (if met = 0 then 0 else -1) else say
def s_holdK (k : Nat) (say more : Int32) : Int32 := if k = 2 ∨ k = 4 then say + 10 else if k = 3 then say / 2 else if k = 5 then more else say
def s_mindK (k : Nat) (say more : Int32) : Int32 := if k = 1 ∨ k = 3 then 0 else if k = 2 then 2 * say + more else if k = 4 then (2 * say + more) / 3 else say
theorem obN : ∀ k, k < 6 → e_any SS (46 + k) = true ∧ e_ob SS 3 (46 + k) = decide (k = 0) ∧ e_ob SS 2 (46 + k) = decide (k = 1) ∧ e_ob SS 8 (46 + k) = decide (k = 2) ∧ e_ob SS 0 (46 + k) = decide (k = 3) ∧ e_ob SS 1 (46 + k) = decide (k = 4) ∧ e_ob SS 4 (46 + k) = decide (k = 5) := by decide +kernel
theorem dv_lean {k : Nat} (hk : k < 6) (a b c d : Int32) (g : e_G) : dv_leaning SS (46 + k) a b c d g = some (s_leanK k a b c d, g) := by
  obtain ⟨h0, h1, h2, h3, h4, h5, h6⟩ := obN k hk
  unfold dv_leaning s_leanK
  rw [h1, h2, h3, h4, h5, h6]
  match k, hk with
  | 0, _ => simp [f_X3_leaning, h0]
  | 1, _ => simp [f_X3_leaning, f_X2_leaning, h0]; split <;> rfl
  | 2, _ => simp [f_X3_leaning, h0]
  | 3, _ => simp [f_X3_leaning, f_X2_leaning, f_X0_leaning, h0]; split <;> rfl
  | 4, _ => simp [f_X3_leaning, f_X1_leaning, h0]; split <;> rfl
  | 5, _ => simp [f_X4_leaning, h0]; split <;> rfl
theorem dv_hold {k : Nat} (hk : k < 6) (a b : Int32) (g : e_G) : dv_holding SS (46 + k) a b g = some (s_holdK k a b, g) := by
  obtain ⟨h0, h1, h2, h3, h4, h5, h6⟩ := obN k hk
  unfold dv_holding s_holdK
  rw [h1, h2, h3, h4, h5, h6]
  match k, hk with
  | 0, _ => simp [f_X3_holding, h0]
  | 1, _ => simp [f_X3_holding, h0]
  | 2, _ => simp [f_X3_holding, f_X8_holding, h0]
  | 3, _ => simp [f_X3_holding, f_X0_holding, h0]
  | 4, _ => simp [f_X3_holding, f_X8_holding, h0]
  | 5, _ => simp [f_X4_holding, h0]
theorem dv_mind {k : Nat} (hk : k < 6) (a b : Int32) (g : e_G) : dv_minding SS (46 + k) a b g = some (s_mindK k a b, g) := by
  obtain ⟨h0, h1, h2, h3, h4, h5, h6⟩ := obN k hk
  unfold dv_minding s_mindK
  rw [h1, h2, h3, h4, h5, h6]
  match k, hk with
  | 0, _ => simp [f_X3_minding, h0]
  | 1, _ => simp [f_X2_minding, h0]
  | 2, _ => simp [f_X3_minding, f_X8_minding, h0]
  | 3, _ => simp [f_X2_minding, h0]
  | 4, _ => simp [f_X3_minding, f_X8_minding, f_X1_minding, h0]
  | 5, _ => simp [f_X3_minding, h0]
theorem cs_kind {g : e_G} {o n : Nat} (h : CS g o n) {p k : Nat} (hp : p < 6) (hk : k < 6) (e : g.1 (o + 4) p = nI k) : f_X7_kindOf SS o (nI p) g = some (46 + k, g) := by
  have hS := h.2.1
  have hG := h.1
  unfold f_X7_kindOf
  rw [if_pos (obS hS)]
  simp only [(rfS hG hS).2.2.2.1, Option.bind_some, aI_ok (arS hS).2.2.2.1 hp (by omega : 6 < 2 ^ 31), e]
  rw [if_neg (nI_pos (by omega))]
  simp only [(rfS hG hS).2.2.2.2.2.2.2.1, Option.bind_some, aL_ok arC.2.2.2.2.2]
  rw [if_neg (nI_ge hk (by omega)), aR_ok arC.2.2.2.2.2 hk (by omega) (b := 46 + k) (by
    rw [hG _ _ (by omega) (by omega)]
    have key : ∀ k, k < 6 → R0 45 k = some (46 + k) := by decide +kernel
    exact key k hk)]
  rfl
