/-- the reference's text t is these tokens, part by part -/
def RX (g : e_G) (t : Nat) (tk : Nat → List (Nat × Int32)) : Prop :=
  t_at tk 3 ≤ 200 ∧ (∀ p, p ≤ 3 → g.1 82 (4 * t + p) = nI (t_at tk p)) ∧ ∀ p, p < 3 → ∀ j (h : j < (tk p).length), g.1 81 (200 * t + (t_at tk p + j)) = m_enc (tk p)[j] ∧ tokR (tk p)[j]
theorem t_at_le2 {tk : Nat → List (Nat × Int32)} (h : t_at tk 3 ≤ 200) {p : Nat} (hp : p < 3) : t_at tk p + (tk p).length ≤ 200 := by
  have e3 : t_at tk 3 = t_at tk 2 + (tk 2).length := rfl
  have e2 : t_at tk 2 = t_at tk 1 + (tk 1).length := rfl
  have e1 : t_at tk 1 = t_at tk 0 + (tk 0).length := rfl
  match p, hp with
  | 0, _ => omega
  | 1, _ => omega
  | 2, _ => omega
theorem m_says {g : e_G} {t : Nat} {tk : Nat → List (Nat × Int32)} (hG : GG g) (ht : t < 6) (hr : g.1 76 10 = nI t) (hT : RX g t tk) (hk : t_ok tk) {p : Nat} (hp : p < 3) {nm : Nat → Int32} (hnm : ∀ k, k < 6 → g.1 92 k = nm k) :
    ∃ f' : Nat → Nat → Int32, f_X11_says SS 76 (nI p) g = some (t_val nm (tk p), (f', g.2)) ∧ ∀ b, b ≠ 91 → f' b = g.1 b := by
  obtain ⟨v, hv⟩ := hk p hp nm
  have e : t_val nm (tk p) = v := by unfold t_val; rw [hv]
  rw [e]
  have hle := t_at_le2 hT.1 hp
  obtain ⟨f', h1, h2⟩ := m_loop ht hp (nm := nm) (tk p) (t_at tk p) [] g 50000 hG hr (hT.2.1 (p + 1) (by omega)) hle (fun j h => hT.2.2 p hp j h) (by simp) (fun j h => by simp at h) (by omega) hnm v hv
  refine ⟨f', ?_, h2⟩
  have A82 : ArA 0 82 24 := by unfold ArA; decide +kernel
  unfold f_X11_says
  rw [if_pos ob11, (rf11 hG).2.2.2.2.2.1, Option.bind_some, gI_ok ob11, Option.bind_some, hr, nI_4, nI_add, aI_ok A82 (by omega) (by omega), Option.bind_some, hT.2.1 p (by omega)]
  have h0 : nI ([] : List Int32).length = (0 : Int32) := nI_0
  rw [h0] at h1
  exact h1
