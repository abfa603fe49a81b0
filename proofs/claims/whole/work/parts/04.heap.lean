def e_ob (S : e_S) (ci a : Nat) : Bool := decide (a < S.1) && decide ((S.2 a).1 = 10 + ci)
def e_ar (S : e_S) (kd a : Nat) : Bool := decide (a < S.1) && decide ((S.2 a).1 = kd)
def e_in (i : Int32) (n : Nat) : Bool := decide (0 ≤ i) && decide (i.toNatClampNeg < n)
def e_up {α : Type} (f : Nat → Nat → α) (a k : Nat) (v : α) : Nat → Nat → α := fun b j => if b = a ∧ j = k then v else f b j
/-- an int field, a reference's field; written -/
def e_gI (S : e_S) (g : e_G) (ci a k : Nat) : Option Int32 := if e_ob S ci a = true then some (g.1 a k) else none
def e_gR (S : e_S) (g : e_G) (ci a k : Nat) : Option Nat := if e_ob S ci a = true then g.2 a k else none
def e_sI (S : e_S) (g : e_G) (ci a k : Nat) (v : Int32) : Option e_G := if e_ob S ci a = true then some (e_up g.1 a k v, g.2) else none
def e_sR (S : e_S) (g : e_G) (ci a k b : Nat) : Option e_G := if (e_ob S ci a && decide (b < S.1)) = true then some (g.1, e_up g.2 a k (some b)) else none
/-- rows: of kind 0 ints, 1 booleans, of references -/
def e_aI (S : e_S) (g : e_G) (kd a : Nat) (i : Int32) : Option Int32 := if (e_ar S kd a && e_in i (S.2 a).2) = true then some (g.1 a i.toNatClampNeg) else none
def e_aS (S : e_S) (g : e_G) (kd a : Nat) (i v : Int32) : Option e_G := if (e_ar S kd a && e_in i (S.2 a).2) = true then some (e_up g.1 a i.toNatClampNeg (if kd = 1 then vp_nar .boolean v else v), g.2) else none
def e_aR (S : e_S) (g : e_G) (kd a : Nat) (i : Int32) : Option Nat := if (e_ar S kd a && e_in i (S.2 a).2) = true then g.2 a i.toNatClampNeg else none
def e_aT (S : e_S) (g : e_G) (kd a : Nat) (i : Int32) (b : Nat) : Option e_G := if (e_ar S kd a && e_in i (S.2 a).2 && decide (b < S.1)) = true then some (g.1, e_up g.2 a i.toNatClampNeg (some b)) else none
def e_aL (S : e_S) (kd a : Nat) : Option Int32 := if e_ar S kd a = true then some (Int32.ofNat (S.2 a).2) else none
def e_FL (own : String) (idx ci k : Nat) : Prop := (ci < 12 ∧ k < (e_C ci).2.2) ∧ Cond.fieldLink own idx ((e_C ci).2.1 k).1 ((e_C ci).2.1 k).2.1 ((e_C ci).2.1 k).2.2.1 ∈ e_big
theorem e_ob_iff {S : e_S} {ci a : Nat} : e_ob S ci a = true ↔ a < S.1 ∧ (S.2 a).1 = 10 + ci := by simp [e_ob]
theorem e_ar_iff {S : e_S} {kd a : Nat} : e_ar S kd a = true ↔ a < S.1 ∧ (S.2 a).1 = kd := by simp [e_ar]
theorem e_in_iff {i : Int32} {n : Nat} : e_in i n = true ↔ vp_in i n := by
  simp only [e_in, vp_in, Bool.and_eq_true, decide_eq_true_eq, not_or, Nat.not_le, Int32.not_lt]
theorem e_lays : ∀ ci, ci < 12 → ∀ w ∈ u_ws (e_C ci).1 (e_C ci).2.1 (e_C ci).2.2, w ∈ e_big := by decide +kernel
theorem e_names : ∀ ci, ci < 12 → ∀ a, a < (e_C ci).2.2 → ∀ b, b < (e_C ci).2.2 → a ≠ b → ((e_C ci).2.1 a).2.1 ≠ ((e_C ci).2.1 b).2.1 := by decide +kernel
theorem e_types : ∀ ci, ci < 12 → ∀ k, k < (e_C ci).2.2 → parseFieldDescriptor ((e_C ci).2.1 k).2.2.1 = some (e_tyF ci k) := by decide +kernel
theorem e_cls_at : ∀ ci, ci < 12 → e_cls[ci]? = some ((e_C ci).1, (e_C ci).2.1, (e_C ci).2.2) := by
  intro ci h
  match ci, h with
  | 0, _ | 1, _ | 2, _ | 3, _ | 4, _ | 5, _ | 6, _ | 7, _ | 8, _ | 9, _ | 10, _ | 11, _ => rfl
  | n + 12, h => exact absurd h (by omega)
def e_fs (E : e_E) (h : e_H) (ci a : Nat) : List Value := (List.range (e_C ci).2.2).map (fun j => if e_rf ci j = true then va_rf ((h.2.2 a j).map E.1) else .int (h.2.1 a j))
theorem e_c_ob {E : e_E} {h : e_H} {ci a : Nat} (hk : (h.1.2 a).1 = 10 + ci) : e_c E h a = .inr (ci, e_fs E h ci a) := by
  unfold e_c
  rw [hk, if_neg (by omega), if_neg (by omega), show 10 + ci - 10 = ci by omega]
  rfl
theorem e_c_in {E : e_E} {h : e_H} {a : Nat} (hk : (h.1.2 a).1 < 2) : e_c E h a = .inl (E.2 a, (h.1.2 a).2, .inl (h.2.1 a)) := by
  unfold e_c
  rw [if_pos hk]
theorem e_c_rf {E : e_E} {h : e_H} {a : Nat} (h2 : 2 ≤ (h.1.2 a).1) (h10 : (h.1.2 a).1 < 10) : e_c E h a = .inl (E.2 a, (h.1.2 a).2, .inr (.inr (.inr (.inr (fun j => (h.2.2 a j).map E.1))))) := by
  unfold e_c
  rw [if_neg (by omega), if_pos h10]
theorem e_fs_at {E : e_E} {h : e_H} {ci a k : Nat} (hk : k < (e_C ci).2.2) : (e_fs E h ci a)[k]? = some (if e_rf ci k = true then va_rf ((h.2.2 a k).map E.1) else .int (h.2.1 a k)) := by
  unfold e_fs
  rw [List.getElem?_map, List.getElem?_range hk]
  rfl
theorem e_fs_len {E : e_E} {h : e_H} {ci a : Nat} : (e_fs E h ci a).length = (e_C ci).2.2 := by simp [e_fs]
/-- another heap, of the same shape, that differs at one place -/
theorem e_fs_set {E : e_E} {h h' : e_H} {ci a k : Nat} {v : Value} (hk : k < (e_C ci).2.2) (hv : (if e_rf ci k = true then va_rf ((h'.2.2 a k).map E.1) else .int (h'.2.1 a k)) = v) (ho : ∀ j, j ≠ k → h'.2.1 a j = h.2.1 a j ∧ h'.2.2 a j = h.2.2 a j) : (e_fs E h ci a).set k v = e_fs E h' ci a := by
  apply List.ext_getElem?
  intro j
  by_cases hj : j = k
  · subst hj
    rw [List.getElem?_set_self (by rw [e_fs_len]; exact hk), e_fs_at hk, hv]
  · rw [List.getElem?_set_ne (Ne.symm hj)]
    by_cases h1 : j < (e_C ci).2.2
    · rw [e_fs_at h1, e_fs_at h1, (ho j hj).1, (ho j hj).2]
    · rw [List.getElem?_eq_none (by rw [e_fs_len]; omega), List.getElem?_eq_none (by rw [e_fs_len]; omega)]
theorem e_c_congr {E : e_E} {h h' : e_H} {j : Nat} (h1 : h'.1 = h.1) (h2 : h'.2.1 j = h.2.1 j) (h3 : h'.2.2 j = h.2.2 j) : e_c E h' j = e_c E h j := by
  unfold e_c
  rw [h1, h2, h3]
theorem e_up_row {α : Type} {f : Nat → Nat → α} {a k : Nat} {v : α} {b : Nat} (hb : b ≠ a) : e_up f a k v b = f b := by
  funext j
  unfold e_up
  rw [if_neg (fun z => hb z.1)]
theorem e_up_same {α : Type} {f : Nat → Nat → α} {a k : Nat} {v : α} : e_up f a k v a = fun j => if j = k then v else f a j := by
  funext j
  unfold e_up
  simp
theorem e_K.shape {D : va_G} {E : e_E} {h h' : e_H} {s : State} (hs : h'.1 = h.1) (hw : e_wf h') (hk : e_K D E h s) : e_K D E h' s := ⟨hk.1, by rw [hs]; exact hk.2.1, hk.2.2.1, hw⟩
/-- a world changed at one place -/
theorem e_Now.put {D : va_G} {A : Nat → Prop} {E : e_E} {h h' : e_H} {s : State} {H H1 : Heap} {locs locs1 : List Loc} (N : e_Now D A E h s H locs) (hs : h'.1 = h.1) (hw : e_wf h') {a : Nat} {cA : va_E} (ha : a < h.1.1) (hc : e_c E h' a = cA) (ho : ∀ j, j ≠ a → h'.2.1 j = h.2.1 j ∧ h'.2.2 j = h.2.2 j)
    (hP : va_P D e_cls ((e_ws E h).set a (E.1 a, cA)) H1) (hD : va_D A ((e_ws E h).set a (E.1 a, cA))) (hS : va_S A s.heap H1 locs1) : e_Now D A E h' s H1 locs1 := by
  have e1 : (e_ws E h).set a (E.1 a, cA) = e_ws E h' := e_ws_set ha (by rw [hs]) hc (fun j hj => e_c_congr hs (ho j hj).1 (ho j hj).2)
  rw [e1] at hP hD
  exact ⟨hP, hD, hS, N.2.2.2.1.shape hs hw, N.2.2.2.2.1, by rw [hs]; exact N.2.2.2.2.2.1, N.2.2.2.2.2.2⟩
theorem e_wf.up {h : e_H} (hw : e_wf h) {a k b : Nat} (hb : b < h.1.1) : e_wf (h.1, (h.2.1, e_up h.2.2 a k (some b))) := by
  intro k2 j b2 hq
  show b2 < h.1.1
  have hq : e_up h.2.2 a k (some b) k2 j = some b2 := hq
  unfold e_up at hq
  split at hq
  · cases hq; exact hb
  · exact hw _ _ _ hq
section E3
variable {l : Launch} {D : va_G} {R : Room} {M : e_M} {bc bs pc : Nat} {lc : List (Nat × Value)} {st : List Value} {h : e_H} {r : Option Value} {h' : e_H}
theorem X.getI {idx ci k a : Nat} {v : Int32} (hd : decode M.2.1 pc = .ok (.getfield idx, 3)) (hw : e_FL M.1.cls idx ci k) (hr : e_rf ci k = false) (hg : e_gI h.1 h.2 ci a k = some v) (K : X l D R M bc bs (pc + 3) lc (.int v :: st) h r h') : X l D R M bc bs pc lc (.ref a :: st) h r h' := by
  intro p e s m args below meth c H locs cells slots E0 h0 E ls C hin N ext L bC bS
  unfold e_gI at hg
  split at hg
  next ho =>
    obtain ⟨h1, h2⟩ := e_ob_iff.mp ho
    cases hg
    refine va_get C.1 C.2.1 (own := M.1.cls) C.2.2.2.2.2.1 (e_lays ci hw.1.1) C.2.2.2.2.1 N.2.2.2.1.1 N.1 a ((e_ws_at h1).trans (by rw [e_c_ob h2])) (e_cls_at ci hw.1.1) k hw.1.2 (C.2.2.2.2.2.1 _ hw.2) (fun _ z => z) ((e_fs_at hw.1.2).trans (by rw [if_neg (by simp [hr])])) hd ?_
    exact K p e s m args below meth c H locs cells slots E0 h0 E ls C hin N ext L bC bS
  next => cases hg
theorem X.getR {idx ci k a b : Nat} (hd : decode M.2.1 pc = .ok (.getfield idx, 3)) (hw : e_FL M.1.cls idx ci k) (hr : e_rf ci k = true) (hg : e_gR h.1 h.2 ci a k = some b) (K : X l D R M bc bs (pc + 3) lc (.ref b :: st) h r h') : X l D R M bc bs pc lc (.ref a :: st) h r h' := by
  intro p e s m args below meth c H locs cells slots E0 h0 E ls C hin N ext L bC bS
  unfold e_gR at hg
  split at hg
  next ho =>
    obtain ⟨h1, h2⟩ := e_ob_iff.mp ho
    refine va_get (v := .ref (E.1 b)) C.1 C.2.1 (own := M.1.cls) C.2.2.2.2.2.1 (e_lays ci hw.1.1) C.2.2.2.2.1 N.2.2.2.1.1 N.1 a ((e_ws_at h1).trans (by rw [e_c_ob h2])) (e_cls_at ci hw.1.1) k hw.1.2 (C.2.2.2.2.2.1 _ hw.2) (fun _ z => z) ((e_fs_at hw.1.2).trans (by rw [if_pos hr, hg]; rfl)) hd ?_
    exact K p e s m args below meth c H locs cells slots E0 h0 E ls C hin N ext L bC bS
  next => cases hg
theorem X.putI {idx ci k a : Nat} {v : Int32} {g : e_G} (hd : decode M.2.1 pc = .ok (.putfield idx, 3)) (hw : e_FL M.1.cls idx ci k) (hr : e_rf ci k = false) (hf : ((e_C ci).2.1 k).2.2.2 = false) (hn : narrow (e_tyF ci k) (.int v) = .int v) (hfit : fits (e_tyF ci k) (.int v) = true) (hg : e_sI h.1 h.2 ci a k v = some g) (K : X l D R M bc bs (pc + 3) lc st (h.1, g) r h') : X l D R M bc bs pc lc (.int v :: .ref a :: st) h r h' := by
  intro p e s m args below meth c H locs cells slots E0 h0 E ls C hin N ext L bC bS
  unfold e_sI at hg
  split at hg
  next ho =>
    obtain ⟨h1, h2⟩ := e_ob_iff.mp ho
    cases hg
    refine va_put C.1 C.2.1 (own := M.1.cls) C.2.2.2.2.2.1 (e_lays ci hw.1.1) (e_tyF ci) (e_types ci hw.1.1) (e_names ci hw.1.1) C.2.2.2.2.1 N.2.2.2.1.1 N.1 N.2.1 N.2.2.1 a ((e_ws_at h1).trans (by rw [e_c_ob h2])) (e_cls_at ci hw.1.1) k hw.1.2 (C.2.2.2.2.2.1 _ hw.2) (fun _ z => z) hf (e_types ci hw.1.1 k hw.1.2) hn hfit (by rw [e_fs_len]; exact hw.1.2) hd (fun H1 locs1 hP hD hS => ?_)
    have eq : (e_fs E h ci a).set k (.int v) = e_fs E (h.1, (e_up h.2.1 a k v, h.2.2)) ci a := e_fs_set hw.1.2 (by simp [hr, e_up]) (fun j hj => ⟨by simp [e_up, hj], rfl⟩)
    exact K p e s m args below meth c H1 locs1 cells slots E0 h0 E ls C hin (N.put (h' := (h.1, (e_up h.2.1 a k v, h.2.2))) rfl N.2.2.2.1.2.2.2 h1 (e_c_ob h2) (fun j hj => ⟨e_up_row hj, rfl⟩) (by rw [← eq]; exact hP) (by rw [← eq]; exact hD) hS) ext L bC bS
  next => cases hg
theorem X.putR {idx ci k a b : Nat} {g : e_G} (hd : decode M.2.1 pc = .ok (.putfield idx, 3)) (hw : e_FL M.1.cls idx ci k) (hr : e_rf ci k = true) (hf : ((e_C ci).2.1 k).2.2.2 = false) (hg : e_sR h.1 h.2 ci a k b = some g) (K : X l D R M bc bs (pc + 3) lc st (h.1, g) r h') : X l D R M bc bs pc lc (.ref b :: .ref a :: st) h r h' := by
  intro p e s m args below meth c H locs cells slots E0 h0 E ls C hin N ext L bC bS
  unfold e_sR at hg
  have hnf : narrow (e_tyF ci k) (.ref (E.1 b)) = .ref (E.1 b) ∧ fits (e_tyF ci k) (.ref (E.1 b)) = true := by
    unfold e_rf at hr
    split at hr
    next q => rw [q]; exact ⟨rfl, rfl⟩
    next q => rw [q]; exact ⟨rfl, rfl⟩
    next => cases hr
  split at hg
  next ho =>
    rw [Bool.and_eq_true, decide_eq_true_eq] at ho
    obtain ⟨ho, hb⟩ := ho
    obtain ⟨h1, h2⟩ := e_ob_iff.mp ho
    cases hg
    refine va_put C.1 C.2.1 (own := M.1.cls) C.2.2.2.2.2.1 (e_lays ci hw.1.1) (e_tyF ci) (e_types ci hw.1.1) (e_names ci hw.1.1) C.2.2.2.2.1 N.2.2.2.1.1 N.1 N.2.1 N.2.2.1 a ((e_ws_at h1).trans (by rw [e_c_ob h2])) (e_cls_at ci hw.1.1) k hw.1.2 (C.2.2.2.2.2.1 _ hw.2) (fun _ z => z) hf (e_types ci hw.1.1 k hw.1.2) hnf.1 hnf.2 (by rw [e_fs_len]; exact hw.1.2) hd (fun H1 locs1 hP hD hS => ?_)
    have eq : (e_fs E h ci a).set k (.ref (E.1 b)) = e_fs E (h.1, (h.2.1, e_up h.2.2 a k (some b))) ci a := e_fs_set hw.1.2 (by simp [hr, e_up, va_rf]) (fun j hj => ⟨rfl, by simp [e_up, hj]⟩)
    exact K p e s m args below meth c H1 locs1 cells slots E0 h0 E ls C hin (N.put (h' := (h.1, (h.2.1, e_up h.2.2 a k (some b)))) rfl (e_wf.up N.2.2.2.1.2.2.2 hb) h1 (e_c_ob h2) (fun j hj => ⟨rfl, e_up_row hj⟩) (by rw [← eq]; exact hP) (by rw [← eq]; exact hD) hS) ext L bC bS
  next => cases hg
/-- a final field, in a constructor of its class -/
theorem X.putF {idx ci k a b : Nat} {g : e_G} (hd : decode M.2.1 pc = .ok (.putfield idx, 3)) (hw : e_FL M.1.cls idx ci k) (hr : e_rf ci k = true) (hf : ((e_C ci).2.1 k).2.2.2 = true) (hi : M.1.name = "<init>") (hdc : ((e_C ci).2.1 k).1 = M.1.cls) (hg : e_sR h.1 h.2 ci a k b = some g) (K : X l D R M bc bs (pc + 3) lc st (h.1, g) r h') : X l D R M bc bs pc lc (.ref b :: .ref a :: st) h r h' := by
  intro p e s m args below meth c H locs cells slots E0 h0 E ls C hin N ext L bC bS
  unfold e_sR at hg
  have hnf : narrow (e_tyF ci k) (.ref (E.1 b)) = .ref (E.1 b) ∧ fits (e_tyF ci k) (.ref (E.1 b)) = true := by
    unfold e_rf at hr
    split at hr
    next q => rw [q]; exact ⟨rfl, rfl⟩
    next q => rw [q]; exact ⟨rfl, rfl⟩
    next => cases hr
  split at hg
  next ho =>
    rw [Bool.and_eq_true, decide_eq_true_eq] at ho
    obtain ⟨ho, hb⟩ := ho
    obtain ⟨h1, h2⟩ := e_ob_iff.mp ho
    cases hg
    refine va_putF C.1 C.2.1 (own := M.1.cls) C.2.2.2.2.2.1 (e_lays ci hw.1.1) (e_tyF ci) (e_types ci hw.1.1) (e_names ci hw.1.1) C.2.2.2.2.1 N.2.2.2.1.1 N.1 N.2.1 N.2.2.1 a ((e_ws_at h1).trans (by rw [e_c_ob h2])) (e_cls_at ci hw.1.1) k hw.1.2 (C.2.2.2.2.2.1 _ hw.2) (fun _ z => z) hf (hin hi) hdc (e_types ci hw.1.1 k hw.1.2) hnf.1 hnf.2 (by rw [e_fs_len]; exact hw.1.2) hd (fun H1 locs1 hP hD hS => ?_)
    have eq : (e_fs E h ci a).set k (.ref (E.1 b)) = e_fs E (h.1, (h.2.1, e_up h.2.2 a k (some b))) ci a := e_fs_set hw.1.2 (by simp [hr, e_up, va_rf]) (fun j hj => ⟨rfl, by simp [e_up, hj]⟩)
    exact K p e s m args below meth c H1 locs1 cells slots E0 h0 E ls C hin (N.put (h' := (h.1, (h.2.1, e_up h.2.2 a k (some b)))) rfl (e_wf.up N.2.2.2.1.2.2.2 hb) h1 (e_c_ob h2) (fun j hj => ⟨rfl, e_up_row hj⟩) (by rw [← eq]; exact hP) (by rw [← eq]; exact hD) hS) ext L bC bS
  next => cases hg
end E3
