theorem e_K.arr {D : va_G} {E : e_E} {h : e_H} {s : State} {kd a : Nat} (hk : e_K D E h s) (ha : a < h.1.1) (hq : (h.1.2 a).1 = kd) (h10 : kd < 10) : va_K D e_cls [(E.2 a, e_ty kd)] s := by
  refine ⟨hk.1.1, fun k q h1 => ?_⟩
  match k, h1 with
  | 0, h1 =>
    cases h1
    have := hk.2.1 a ha (by omega)
    rw [hq] at this
    exact this
  | k + 1, h1 => simp at h1
section E4
variable {l : Launch} {D : va_G} {R : Room} {M : e_M} {bc bs pc : Nat} {lc : List (Nat × Value)} {st : List Value} {h : e_H} {r : Option Value} {h' : e_H}
theorem X.iald {a : Nat} {i v : Int32} (hd : decode M.2.1 pc = .ok (.iaload, 1)) (hg : e_aI h.1 h.2 0 a i = some v) (K : X l D R M bc bs (pc + 1) lc (.int v :: st) h r h') : X l D R M bc bs pc lc (.int i :: .ref a :: st) h r h' := by
  intro p e s m args below meth c H locs cells slots E0 h0 E ls C hin N ext L bC bS
  unfold e_aI at hg
  split at hg
  next ho =>
    rw [Bool.and_eq_true] at ho
    obtain ⟨h1, h2⟩ := e_ar_iff.mp ho.1
    cases hg
    exact va_iald C.1 C.2.1 (N.2.2.2.1.arr h1 h2 (by omega)) N.1 a 0 ((e_ws_at h1).trans (by rw [e_c_in (by omega)])) rfl (e_in_iff.mp ho.2) hd (K p e s m args below meth c H locs cells slots E0 h0 E ls C hin N ext L bC bS)
  next => cases hg
theorem X.zald {a : Nat} {i v : Int32} (hd : decode M.2.1 pc = .ok (.baload, 1)) (hg : e_aI h.1 h.2 1 a i = some v) (K : X l D R M bc bs (pc + 1) lc (.int v :: st) h r h') : X l D R M bc bs pc lc (.int i :: .ref a :: st) h r h' := by
  intro p e s m args below meth c H locs cells slots E0 h0 E ls C hin N ext L bC bS
  unfold e_aI at hg
  split at hg
  next ho =>
    rw [Bool.and_eq_true] at ho
    obtain ⟨h1, h2⟩ := e_ar_iff.mp ho.1
    cases hg
    exact va_zald C.1 C.2.1 (N.2.2.2.1.arr h1 h2 (by omega)) N.1 a 0 ((e_ws_at h1).trans (by rw [e_c_in (by omega)])) rfl (e_in_iff.mp ho.2) hd (K p e s m args below meth c H locs cells slots E0 h0 E ls C hin N ext L bC bS)
  next => cases hg
theorem X.aald {kd a b : Nat} {i : Int32} (hd : decode M.2.1 pc = .ok (.aaload, 1)) (hk : kd = 2 ∨ kd = 3 ∨ kd = 4) (hg : e_aR h.1 h.2 kd a i = some b) (K : X l D R M bc bs (pc + 1) lc (.ref b :: st) h r h') : X l D R M bc bs pc lc (.int i :: .ref a :: st) h r h' := by
  intro p e s m args below meth c H locs cells slots E0 h0 E ls C hin N ext L bC bS
  unfold e_aR at hg
  split at hg
  next ho =>
    rw [Bool.and_eq_true] at ho
    obtain ⟨h1, h2⟩ := e_ar_iff.mp ho.1
    have key : ∀ C0 : String, e_ty kd = .object C0 → W p l e R s m args below meth c H locs cells slots (MQ below (e_Q D E0 h0 r h') args s R.cells R.slots (e_A E0 h0 s.heap.size)) (F0 m pc ls ((Value.int i :: Value.ref a :: st).map (e_v E))) := by
      intro C0 hC
      have hK := N.2.2.2.1.arr h1 h2 (by omega)
      rw [hC] at hK
      refine va_aldq C.1 C.2.1 hK N.1 a 0 ((e_ws_at h1).trans (by rw [e_c_rf (by omega) (by omega)])) rfl (e_in_iff.mp ho.2) hd ?_
      have e1 : va_rf ((h.2.2 a i.toNatClampNeg).map E.1) = e_v E (.ref b) := by rw [hg]; rfl
      show W p l e R s m args below meth c H locs cells slots _ (F0 m (pc + 1) ls (va_rf ((h.2.2 a i.toNatClampNeg).map E.1) :: _))
      rw [e1]
      exact K p e s m args below meth c H locs cells slots E0 h0 E ls C hin N ext L bC bS
    rcases hk with rfl | rfl | rfl
    · exact key _ rfl
    · exact key _ rfl
    · exact key _ rfl
  next => cases hg
theorem X.iast {a : Nat} {i v : Int32} {g : e_G} (hd : decode M.2.1 pc = .ok (.iastore, 1)) (hg : e_aS h.1 h.2 0 a i v = some g) (K : X l D R M bc bs (pc + 1) lc st (h.1, g) r h') : X l D R M bc bs pc lc (.int v :: .int i :: .ref a :: st) h r h' := by
  intro p e s m args below meth c H locs cells slots E0 h0 E ls C hin N ext L bC bS
  unfold e_aS at hg
  split at hg
  next ho =>
    rw [Bool.and_eq_true] at ho
    obtain ⟨h1, h2⟩ := e_ar_iff.mp ho.1
    rw [if_neg (by omega : ¬ (0 : Nat) = 1)] at hg
    cases hg
    refine va_iast C.1 C.2.1 (N.2.2.2.1.arr h1 h2 (by omega)) N.1 N.2.1 N.2.2.1 a 0 ((e_ws_at h1).trans (by rw [e_c_in (by omega)])) rfl (e_in_iff.mp ho.2) hd (fun H1 locs1 hP hD hS => ?_)
    refine K p e s m args below meth c H1 locs1 cells slots E0 h0 E ls C hin (N.put (h' := (h.1, (e_up h.2.1 a i.toNatClampNeg v, h.2.2))) rfl N.2.2.2.1.2.2.2 h1 ?_ (fun j hj => ⟨e_up_row hj, rfl⟩) hP hD hS) ext L bC bS
    refine (e_c_in (h := (h.1, (e_up h.2.1 a i.toNatClampNeg v, h.2.2))) (a := a) (show (h.1.2 a).1 < 2 by omega)).trans ?_
    show Sum.inl (E.2 a, (h.1.2 a).2, Sum.inl (e_up h.2.1 a i.toNatClampNeg v a)) = _
    rw [e_up_same]
    rfl
  next => cases hg
theorem X.zast {a : Nat} {i v : Int32} {g : e_G} (hd : decode M.2.1 pc = .ok (.bastore, 1)) (hg : e_aS h.1 h.2 1 a i v = some g) (K : X l D R M bc bs (pc + 1) lc st (h.1, g) r h') : X l D R M bc bs pc lc (.int v :: .int i :: .ref a :: st) h r h' := by
  intro p e s m args below meth c H locs cells slots E0 h0 E ls C hin N ext L bC bS
  unfold e_aS at hg
  split at hg
  next ho =>
    rw [Bool.and_eq_true] at ho
    obtain ⟨h1, h2⟩ := e_ar_iff.mp ho.1
    rw [if_pos rfl] at hg
    cases hg
    refine va_zast C.1 C.2.1 (N.2.2.2.1.arr h1 h2 (by omega)) N.1 N.2.1 N.2.2.1 a 0 ((e_ws_at h1).trans (by rw [e_c_in (by omega)])) rfl (e_in_iff.mp ho.2) hd (fun H1 locs1 hP hD hS => ?_)
    refine K p e s m args below meth c H1 locs1 cells slots E0 h0 E ls C hin (N.put (h' := (h.1, (e_up h.2.1 a i.toNatClampNeg (vp_nar .boolean v), h.2.2))) rfl N.2.2.2.1.2.2.2 h1 ?_ (fun j hj => ⟨e_up_row hj, rfl⟩) hP hD hS) ext L bC bS
    refine (e_c_in (h := (h.1, (e_up h.2.1 a i.toNatClampNeg (vp_nar .boolean v), h.2.2))) (a := a) (show (h.1.2 a).1 < 2 by omega)).trans ?_
    show Sum.inl (E.2 a, (h.1.2 a).2, Sum.inl (e_up h.2.1 a i.toNatClampNeg (vp_nar .boolean v) a)) = _
    rw [e_up_same]
    rfl
  next => cases hg
theorem X.aast {kd a b ci : Nat} {i : Int32} {g : e_G} (hd : decode M.2.1 pc = .ok (.aastore, 1)) (hk : kd = 2 ∨ kd = 3 ∨ kd = 4) (hb : e_ob h.1 ci b = true) (hci : ci < 12) (hc : e_ty kd = .object (e_C ci).1 ∨ ∃ C0, e_ty kd = .object C0 ∧ ((e_C ci).1, C0) ∈ e_cast) (hg : e_aT h.1 h.2 kd a i b = some g) (K : X l D R M bc bs (pc + 1) lc st (h.1, g) r h') : X l D R M bc bs pc lc (.ref b :: .int i :: .ref a :: st) h r h' := by
  intro p e s m args below meth c H locs cells slots E0 h0 E ls C hin N ext L bC bS
  unfold e_aT at hg
  split at hg
  next ho =>
    rw [Bool.and_eq_true, Bool.and_eq_true, decide_eq_true_eq] at ho
    obtain ⟨⟨ho1, ho2⟩, hbn⟩ := ho
    obtain ⟨h1, h2⟩ := e_ar_iff.mp ho1
    obtain ⟨hb1, hb2⟩ := e_ob_iff.mp hb
    cases hg
    have hwa : (e_ws E h)[a]? = some (E.1 a, .inl (E.2 a, (h.1.2 a).2, .inr (.inr (.inr (.inr (fun j => (h.2.2 a j).map E.1)))))) := (e_ws_at h1).trans (by rw [e_c_rf (by omega) (by omega)])
    have hwb : (e_ws E h)[b]? = some (E.1 b, .inr (ci, e_fs E h ci b)) := (e_ws_at hb1).trans (by rw [e_c_ob hb2])
    have go : ∀ (H1 : Heap) (locs1 : List Loc), va_P D e_cls ((e_ws E h).set a (E.1 a, .inl (E.2 a, (h.1.2 a).2, .inr (.inr (.inr (.inr (va_up (fun j => (h.2.2 a j).map E.1) i.toNatClampNeg (some (E.1 b))))))))) H1 → va_D (e_A E0 h0 s.heap.size) ((e_ws E h).set a (E.1 a, .inl (E.2 a, (h.1.2 a).2, .inr (.inr (.inr (.inr (va_up (fun j => (h.2.2 a j).map E.1) i.toNatClampNeg (some (E.1 b))))))))) → va_S (e_A E0 h0 s.heap.size) s.heap H1 locs1 →
        W p l e R s m args below meth c H1 locs1 cells slots (MQ below (e_Q D E0 h0 r h') args s R.cells R.slots (e_A E0 h0 s.heap.size)) (F0 m (pc + 1) ls (st.map (e_v E))) := by
      intro H1 locs1 hP hD hS
      refine K p e s m args below meth c H1 locs1 cells slots E0 h0 E ls C hin (N.put (h' := (h.1, (h.2.1, e_up h.2.2 a i.toNatClampNeg (some b)))) rfl (e_wf.up N.2.2.2.1.2.2.2 hbn) h1 ?_ (fun j hj => ⟨rfl, e_up_row hj⟩) hP hD hS) ext L bC bS
      refine (e_c_rf (h := (h.1, (h.2.1, e_up h.2.2 a i.toNatClampNeg (some b)))) (a := a) (show 2 ≤ (h.1.2 a).1 by omega) (show (h.1.2 a).1 < 10 by omega)).trans ?_
      show Sum.inl (E.2 a, (h.1.2 a).2, Sum.inr (Sum.inr (Sum.inr (Sum.inr (fun j => (e_up h.2.2 a i.toNatClampNeg (some b) a j).map E.1))))) = _
      rw [e_up_same]
      congr 7
      funext j
      unfold va_up
      by_cases hj : j = i.toNatClampNeg <;> simp [hj]
    have hK := N.2.2.2.1.arr h1 h2 (by omega)
    rcases hc with hc | ⟨C0, hc, hcast⟩
    · rw [hc] at hK
      exact va_astq (ci := ci) (r := e_C ci) C.1 C.2.1 hK N.1 N.2.1 N.2.2.1 a 0 b hwa rfl hwb (e_cls_at ci hci) (e_in_iff.mp ho2) hd go
    · rw [hc] at hK
      exact va_astqO (ci := ci) (r := e_C ci) C.1 C.2.1 hK N.1 N.2.1 N.2.2.1 a 0 b hwa rfl (N.2.2.2.1.2.2.1.1 _ hcast) hwb (e_cls_at ci hci) (e_in_iff.mp ho2) hd go
  next => cases hg
theorem X.alen {kd a : Nat} {v : Int32} (hd : decode M.2.1 pc = .ok (.arraylength, 1)) (hk : kd < 10) (hg : e_aL h.1 kd a = some v) (K : X l D R M bc bs (pc + 1) lc (.int v :: st) h r h') : X l D R M bc bs pc lc (.ref a :: st) h r h' := by
  intro p e s m args below meth c H locs cells slots E0 h0 E ls C hin N ext L bC bS
  unfold e_aL at hg
  split at hg
  next ho =>
    obtain ⟨h1, h2⟩ := e_ar_iff.mp ho
    cases hg
    have k := K p e s m args below meth c H locs cells slots E0 h0 E ls C hin N ext L bC bS
    by_cases h3 : kd < 2
    · exact va_alen C.1 C.2.1 (N.2.2.2.1.arr h1 h2 hk) N.1 a 0 (show (e_ws E h)[a]? = some (E.1 a, .inl (E.2 a, (h.1.2 a).2, .inl (h.2.1 a))) from (e_ws_at h1).trans (by rw [e_c_in (by omega)])) rfl rfl hd k
    · exact va_alen C.1 C.2.1 (N.2.2.2.1.arr h1 h2 hk) N.1 a 0 (show (e_ws E h)[a]? = some (E.1 a, .inl (E.2 a, (h.1.2 a).2, .inr (.inr (.inr (.inr (fun j => (h.2.2 a j).map E.1)))))) from (e_ws_at h1).trans (by rw [e_c_rf (by omega) (by omega)])) rfl rfl hd k
  next => cases hg
/-- instanceof, by the kind of what lies there -/
def e_is (S : e_S) (nm : String) (a : Nat) : Option Int32 := if a < S.1 ∧ 10 ≤ (S.2 a).1 ∧ (S.2 a).1 < 22 then
    (if (e_C ((S.2 a).1 - 10)).1 = nm then some 1 else if ((e_C ((S.2 a).1 - 10)).1, nm) ∈ e_cast then some 1 else if ((e_C ((S.2 a).1 - 10)).1, nm) ∈ e_ncast then some 0 else none) else none
theorem X.inst {a idx ci : Nat} {nm : String} {v : Int32} (hd : decode M.2.1 pc = .ok (.instanceof idx, 3)) (hw : Cond.classLink M.1.cls idx nm ∈ e_big) (hci : ci < 12) (hn : (e_C ci).1 = nm) (hg : e_is h.1 nm a = some v) (K : X l D R M bc bs (pc + 3) lc (.int v :: st) h r h') : X l D R M bc bs pc lc (.ref a :: st) h r h' := by
  intro p e s m args below meth c H locs cells slots E0 h0 E ls C hin N ext L bC bS
  unfold e_is at hg
  split at hg
  next ho =>
    obtain ⟨h1, h2, h3⟩ := ho
    obtain ⟨cj, hcj⟩ : ∃ cj, (h.1.2 a).1 = 10 + cj := ⟨(h.1.2 a).1 - 10, by omega⟩
    rw [show (h.1.2 a).1 - 10 = cj by omega] at hg
    have hr := va_recv N.2.2.2.1.1 N.1 (e_cls_at cj (by omega)) ((e_ws_at h1).trans (by rw [e_c_ob hcj]))
    have k := K p e s m args below meth c H locs cells slots E0 h0 E ls C hin N ext L bC bS
    split at hg
    next q =>
      cases hg
      exact va_instS C.1 C.2.1 C.2.2.2.2.1 (C.2.2.2.2.2.1 _ hw) (by rw [← hn]; exact (N.2.2.2.1.1.1 ci _ (e_cls_at ci hci)).2) (by rw [← q]; exact hr) hd k
    next =>
      split at hg
      next q => cases hg; exact va_instY C.1 C.2.1 C.2.2.2.2.1 (C.2.2.2.2.2.1 _ hw) (N.2.2.2.1.2.2.1.1 _ q) hr hd k
      next =>
        split at hg
        next q => cases hg; exact va_instNo C.1 C.2.1 C.2.2.2.2.1 (C.2.2.2.2.2.1 _ hw) (N.2.2.2.1.2.2.1.2.1 _ q) hr hd k
        next => cases hg
  next => cases hg
theorem X.mmax {index : Nat} {x y : Int32} (hd : decode M.2.1 pc = .ok (.invokestatic index, 3)) (hw : Cond.methodLink M.1.cls index Lib.Math.max.name ∈ e_big) (w2 : (Cond.static Lib.Math.max.name) ∈ e_big) (w3 : (Cond.initialized "java/lang/Math") ∈ e_big) (w4 : (Cond.code Lib.Math.max.name Lib.Math.max.code 2 (some .int)) ∈ e_big) (hR : 1 ≤ R.frames ∧ 21 ≤ R.locals) (hst : (st.map fun v => v.category).sum ≤ 8) (K : X l D R M bc bs (pc + 3) lc (.int (if x < y then y else x) :: st) h r h') : X l D R M bc bs pc lc (.int y :: .int x :: st) h r h' := by
  intro p e s m args below meth c H locs cells slots E0 h0 E ls C hin N ext L bC bS
  exact va_mmax C.1 C.2.1 (C.2.2.1.trans L.1.symm) C.2.2.2.2.1 (C.2.2.2.2.2.1 _ hw) (C.2.2.2.2.2.1 _ w2) (C.2.2.2.2.2.1 _ w3) (C.2.2.2.2.2.1 _ w4) hR.1 (by rw [e_cats]; omega) (by omega) (by omega) hd (K p e s m args below meth c H locs cells slots E0 h0 E ls C hin N ext L bC bS)
theorem X.mmin {index : Nat} {x y : Int32} (hd : decode M.2.1 pc = .ok (.invokestatic index, 3)) (hw : Cond.methodLink M.1.cls index Lib.Math.min.name ∈ e_big) (w2 : (Cond.static Lib.Math.min.name) ∈ e_big) (w3 : (Cond.initialized "java/lang/Math") ∈ e_big) (w4 : (Cond.code Lib.Math.min.name Lib.Math.min.code 2 (some .int)) ∈ e_big) (hR : 1 ≤ R.frames ∧ 21 ≤ R.locals) (hst : (st.map fun v => v.category).sum ≤ 8) (K : X l D R M bc bs (pc + 3) lc (.int (if y < x then y else x) :: st) h r h') : X l D R M bc bs pc lc (.int y :: .int x :: st) h r h' := by
  intro p e s m args below meth c H locs cells slots E0 h0 E ls C hin N ext L bC bS
  exact va_mmin C.1 C.2.1 (C.2.2.1.trans L.1.symm) C.2.2.2.2.1 (C.2.2.2.2.2.1 _ hw) (C.2.2.2.2.2.1 _ w2) (C.2.2.2.2.2.1 _ w3) (C.2.2.2.2.2.1 _ w4) hR.1 (by rw [e_cats]; omega) (by omega) (by omega) hd (K p e s m args below meth c H locs cells slots E0 h0 E ls C hin N ext L bC bS)
end E4
