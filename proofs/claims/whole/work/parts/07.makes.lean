/-! making cells -/
/-- no reference in it is to one of the places n .. n' - 1, that are made now -/
def e_okv (n n' : Nat) (v : Value) : Bool := match v with
  | .ref a => !(decide (n ≤ a) && decide (a < n'))
  | _ => true
def e_okl (n n' : Nat) (lc : List (Nat × Value)) (st : List Value) : Bool := lc.all (fun q => e_okv n n' q.2) && st.all (e_okv n n')
theorem e_v_ext {E E' : e_E} {n n' : Nat} (hx : e_ext E n E' n') {v : Value} (h : e_okv n n' v = true) : e_v E' v = e_v E v := by
  cases v with
  | ref a =>
    have h2 : ¬ (n ≤ a ∧ a < n') := by
      intro z
      simp [e_okv, z.1, z.2] at h
    show Value.ref (E'.1 a) = Value.ref (E.1 a)
    rw [(hx.2.2 a h2).1]
  | retAddr k =>
    show (if E'.1 3000000 = 0 then Value.null else .ref (E'.1 3000001)) = (if E.1 3000000 = 0 then Value.null else .ref (E.1 3000001))
    rw [(hx.2.2 3000000 (by have := hx.2.1; omega)).1, (hx.2.2 3000001 (by have := hx.2.1; omega)).1]
  | _ => rfl
theorem e_lc_ext {E E' : e_E} {n n' : Nat} (hx : e_ext E n E' n') {lc : List (Nat × Value)} {st : List Value} (h : e_okl n n' lc st = true) : e_lc E' lc = e_lc E lc ∧ st.map (e_v E') = st.map (e_v E) := by
  unfold e_okl at h
  rw [Bool.and_eq_true, List.all_eq_true, List.all_eq_true] at h
  constructor
  · unfold e_lc
    apply List.map_congr_left
    intro q hq
    rw [e_v_ext hx (h.1 q hq)]
  · apply List.map_congr_left
    intro q hq
    exact e_v_ext hx (h.2 q hq)
/-- a shape with one place more, that holds zeros -/
def e_new (h : e_H) (kd len : Nat) : e_H := ((h.1.1 + 1, fun k => if k = h.1.1 then (kd, len) else h.1.2 k), (fun k => if k = h.1.1 then fun _ => 0 else h.2.1 k, fun k => if k = h.1.1 then fun _ => none else h.2.2 k))
def e_Enew (E : e_E) (n q : Nat) (cA : ClassId) : e_E := (fun k => if k = n then q else E.1 k, fun k => if k = n then cA else E.2 k)
theorem e_wf.new {h : e_H} (hw : e_wf h) (kd len : Nat) : e_wf (e_new h kd len) := by
  intro k j b hq
  have hq : (if k = h.1.1 then (fun _ : Nat => (none : Option Nat)) else h.2.2 k) j = some b := hq
  show b < h.1.1 + 1
  split at hq
  · cases hq
  · exact Nat.lt_succ_of_lt (hw _ _ _ hq)
theorem e_ws_new {E : e_E} {h : e_H} (hw : e_wf h) {q kd len : Nat} {cA : ClassId} {x : va_E} (hx : e_c (e_Enew E h.1.1 q cA) (e_new h kd len) h.1.1 = x) : e_ws (e_Enew E h.1.1 q cA) (e_new h kd len) = e_ws E h ++ [(q, x)] := by
  unfold e_ws
  rw [show (e_new h kd len).1.1 = h.1.1 + 1 from rfl, List.range_succ, List.map_append, List.map_singleton, hx]
  congr 1
  · apply List.map_congr_left
    intro k hk
    have hk := List.mem_range.mp hk
    have e1 : (e_Enew E h.1.1 q cA).1 k = E.1 k := by simp [e_Enew]; omega
    rw [e1]
    congr 1
    have hne : k ≠ h.1.1 := by omega
    have s1 : (e_new h kd len).1.2 k = h.1.2 k := by simp [e_new, hne]
    have s2 : (e_new h kd len).2.1 k = h.2.1 k := by simp [e_new, hne]
    have s3 : (e_new h kd len).2.2 k = h.2.2 k := by simp [e_new, hne]
    have s4 : (e_Enew E h.1.1 q cA).2 k = E.2 k := by simp [e_Enew, hne]
    have s5 : ∀ j, (h.2.2 k j).map (e_Enew E h.1.1 q cA).1 = (h.2.2 k j).map E.1 := by
      intro j
      cases hb : h.2.2 k j with
      | none => rfl
      | some b =>
        have := hw _ _ _ hb
        have hne2 : b ≠ h.1.1 := by omega
        simp [e_Enew, hne2]
    unfold e_c
    rw [s1, s2, s3, s4]
    simp only [s5]
  · have : (e_Enew E h.1.1 q cA).1 h.1.1 = q := by simp [e_Enew]
    rw [this]
theorem e_ext_new {E : e_E} {n q : Nat} {cA : ClassId} (hn : n + 1 ≤ 1000000) : e_ext E n (e_Enew E n q cA) (n + 1) := ⟨Nat.le_succ _, hn, fun k hk => by
  have : k ≠ n := by omega
  simp [e_Enew, this]⟩
theorem e_Now.new {D : va_G} {A : Nat → Prop} {E : e_E} {h : e_H} {s : State} {H H1 : Heap} {locs locs1 : List Loc} (N : e_Now D A E h s H locs) {q kd len : Nat} {cA : ClassId} {x : va_E} (hx : e_c (e_Enew E h.1.1 q cA) (e_new h kd len) h.1.1 = x) (hn : h.1.1 + 1 ≤ 1000000)
    (hP : va_P D e_cls (e_ws E h ++ [(q, x)]) H1) (hD : va_D A (e_ws E h ++ [(q, x)])) (hS : va_S A s.heap H1 locs1) (hK : kd < 10 → ArrOfT s cA (e_ty kd) ∧ va_RA s cA (e_ty kd)) : e_Now D A (e_Enew E h.1.1 q cA) (e_new h kd len) s H1 locs1 := by
  obtain ⟨-, -, -, k1, hStr, -, hA⟩ := N
  have e1 := e_ws_new (E := E) k1.2.2.2 hx
  refine ⟨by unfold e_P; rw [e1]; exact hP, by rw [e1]; exact hD, hS, ⟨k1.1, fun k h1 h2 => ?_, k1.2.2.1, k1.2.2.2.new kd len⟩, ?_, hn, hA⟩
  · by_cases hk : k = h.1.1
    · subst hk
      have s1 : (e_new h kd len).1.2 h.1.1 = (kd, len) := by simp [e_new]
      rw [s1] at h2 ⊢
      have s2 : (e_Enew E h.1.1 q cA).2 h.1.1 = cA := by simp [e_Enew]
      rw [s2]
      exact hK h2
    · have s1 : (e_new h kd len).1.2 k = h.1.2 k := by simp [e_new, hk]
      rw [s1] at h2 ⊢
      have s2 : (e_Enew E h.1.1 q cA).2 k = E.2 k := by simp [e_Enew, hk]
      rw [s2]
      have h1 : k < h.1.1 + 1 := h1
      exact k1.2.1 k (by omega) h2
  · have q1 : (fun i => (e_Enew E h.1.1 q cA).1 (1000000 + i)) = (fun i => E.1 (1000000 + i)) := funext fun i => by
      have : 1000000 + i ≠ h.1.1 := by omega
      simp [e_Enew, this]
    have q2 : (fun i => (e_Enew E h.1.1 q cA).1 (2000000 + i)) = (fun i => E.1 (2000000 + i)) := funext fun i => by
      have : 2000000 + i ≠ h.1.1 := by omega
      simp [e_Enew, this]
    unfold e_Str
    rw [q1, q2]
    have q3 : e_v (e_Enew E h.1.1 q cA) (.retAddr 0) = e_v E (.retAddr 0) := by
      have z1 : 3000000 ≠ h.1.1 := by omega
      have z2 : 3000001 ≠ h.1.1 := by omega
      simp [e_v, e_Enew, z1, z2]
    rw [q3]
    refine ⟨hStr.1, fun i z hz => ?_, hStr.2.2⟩
    have := congrFun q1 i
    rw [this]
    exact hStr.2.1 i z hz
section E6
variable {l : Launch} {D : va_G} {R : Room} {M : e_M} {bc bs pc : Nat} {lc : List (Nat × Value)} {st : List Value} {h : e_H} {r : Option Value} {h' : e_H}
theorem X.objInit {idx a : Nat} (hd : decode M.2.1 pc = .ok (.invokespecial idx, 3)) (hw : Cond.methodLink M.1.cls idx Lib.objectInit ∈ e_big) (w2 : (Cond.instanceMethod Lib.objectInit) ∈ e_big) (w3 : (Cond.code Lib.objectInit ⟨#[0xb1]⟩ 1 none) ∈ e_big) (hR : 1 ≤ R.frames ∧ 20 ≤ R.locals) (hst : (st.map fun v => v.category).sum ≤ 8) (K : X l D R M bc bs (pc + 3) lc st h r h') : X l D R M bc bs pc lc (.ref a :: st) h r h' := by
  intro p e s m args below meth c H locs cells slots E0 h0 E ls C hin N ext L bC bS
  refine W.objInit C.1 C.2.1 C.2.2.2.2.1 (C.2.2.2.2.2.1 _ hw) (C.2.2.2.2.2.1 _ w2) (C.2.2.2.2.2.1 _ w3) rfl (by rw [C.2.2.1]; exact L.1) rfl hd hR.1 ?_ (W.eq (g2 := F0 m (pc + 3) ls (st.map (e_v E))) rfl (K p e s m args below meth c H locs cells slots E0 h0 E ls C hin N ext L bC bS))
  have : ((st.map (e_v E)).map fun v => v.category).sum ≤ 8 := by rw [e_cats]; exact hst
  show 2 * 0 + ((st.map (e_v E)).map fun v => v.category).sum + 12 ≤ R.locals
  omega
theorem X.newarr {at' : ArrayType} {n : Int32} {kd : Nat} (hd : decode M.2.1 pc = .ok (.newarray at', 2)) (hk : kd = 0 ∧ newarray.typeOf at' = .int ∨ kd = 1 ∧ newarray.typeOf at' = .boolean) (hw : Cond.arrayClass (newarray.typeOf at') ∈ e_big) (hn : ¬ n < 0) {len : Nat} (hl : n.toNatClampNeg = len) (hb : len ≤ 100000) (hm : h.1.1 + 1 ≤ 1000000) (hok : e_okl h.1.1 (h.1.1 + 1) lc st = true)
    (K : X l D R M bc bs (pc + 2) lc (.ref h.1.1 :: st) (e_new h kd len) r h') : X l D R M (bc + 1) (bs + len) pc lc (.int n :: st) h r h' := by
  intro p e s m args below meth c H locs cells slots E0 h0 E ls C hin N ext L bC bS
  have key : ∀ ty : FieldType, e_ty kd = ty → newarray.typeOf at' = ty → kd < 2 → defaultValue ty = .int 0 → componentBytes ty ≤ 8 → W p l e R s m args below meth c H locs cells slots (MQ below (e_Q D E0 h0 r h') args s R.cells R.slots (e_A E0 h0 s.heap.size)) (F0 m pc ls ((Value.int n :: st).map (e_v E))) := by
    intro ty h1 h2 h3 h4 h5
    refine va_newa C.1 C.2.1 (C.2.2.2.2.2.1 _ hw) h2 N.2.2.2.1.1 N.1 N.2.1 N.2.2.1 N.2.2.2.2.2.2 (a0 := (len, .inl fun _ => 0)) (fun cA => ?_) hn hl ?_ (by omega) (by omega) hd (fun q cA H1 hK hP hD hS => ?_)
    · rw [h4]; rfl
    · have : len * componentBytes ty ≤ 100000 * 8 := Nat.mul_le_mul hb h5
      omega
    · have hx : e_c (e_Enew E h.1.1 q cA) (e_new h kd len) h.1.1 = .inl (cA, len, .inl fun _ => 0) := by
        have s1 : (e_new h kd len).1.2 h.1.1 = (kd, len) := by simp [e_new]
        refine (e_c_in (by rw [s1]; exact h3)).trans ?_
        rw [s1]
        simp [e_new, e_Enew]
      have N1 := N.new hx hm hP hD hS (fun _ => by
        have := hK.2 0 _ rfl
        rw [h1]
        exact this)
      have x1 : e_ext E h.1.1 (e_Enew E h.1.1 q cA) (h.1.1 + 1) := e_ext_new hm
      obtain ⟨o1, o2⟩ := e_lc_ext x1 hok
      have k := K p e s m args below meth c H1 locs (cells + 1) (slots + len) E0 h0 (e_Enew E h.1.1 q cA) ls C hin N1 (ext.trans x1) (by rw [o1]; exact L) (by omega) (by omega)
      have e9 : (Value.ref h.1.1 :: st).map (e_v (e_Enew E h.1.1 q cA)) = Value.ref q :: st.map (e_v E) := by
        rw [List.map_cons, o2]
        simp [e_v, e_Enew]
      rw [e9] at k
      exact k
  rcases hk with ⟨rfl, h2⟩ | ⟨rfl, h2⟩
  · exact key .int rfl h2 (by omega) rfl (by decide)
  · exact key .boolean rfl h2 (by omega) rfl (by decide)
theorem X.anew {idx : Nat} {n : Int32} {kd : Nat} {nm : String} (hd : decode M.2.1 pc = .ok (.anewarray idx, 3)) (hk : kd = 2 ∨ kd = 3 ∨ kd = 4) (ht : e_ty kd = .object nm) (hmem : nm ∈ ([RX9, RX3, RX6] : List String)) (hw : Cond.classLink M.1.cls idx nm ∈ e_big) (hn : ¬ n < 0) {len : Nat} (hl : n.toNatClampNeg = len) (hb : len ≤ 100000) (hm : h.1.1 + 1 ≤ 1000000) (hok : e_okl h.1.1 (h.1.1 + 1) lc st = true)
    (K : X l D R M bc bs (pc + 3) lc (.ref h.1.1 :: st) (e_new h kd len) r h') : X l D R M (bc + 1) (bs + len) pc lc (.int n :: st) h r h' := by
  intro p e s m args below meth c H locs cells slots E0 h0 E ls C hin N ext L bC bS
  refine va_newq C.1 C.2.1 C.2.2.2.2.1 (C.2.2.2.2.2.1 _ hw) (N.2.2.2.1.2.2.1.2.2.2 _ hmem) N.2.2.2.1.1 N.1 N.2.1 N.2.2.1 N.2.2.2.2.2.2 hn hl (by omega) (by omega) (by omega) hd (fun q cA H1 hK hP hD hS => ?_)
  have hx : e_c (e_Enew E h.1.1 q cA) (e_new h kd len) h.1.1 = .inl (cA, len, .inr (.inr (.inr (.inr fun _ => none)))) := by
    have s1 : (e_new h kd len).1.2 h.1.1 = (kd, len) := by simp [e_new]
    refine (e_c_rf (by rw [s1]; show 2 ≤ kd; omega) (by rw [s1]; show kd < 10; omega)).trans ?_
    rw [s1]
    simp [e_new, e_Enew]
  have N1 := N.new hx hm hP hD hS (fun _ => by
    have := hK.2 0 _ rfl
    rw [ht]
    exact this)
  have x1 : e_ext E h.1.1 (e_Enew E h.1.1 q cA) (h.1.1 + 1) := e_ext_new hm
  obtain ⟨o1, o2⟩ := e_lc_ext x1 hok
  have k := K p e s m args below meth c H1 locs (cells + 1) (slots + len) E0 h0 (e_Enew E h.1.1 q cA) ls C hin N1 (ext.trans x1) (by rw [o1]; exact L) (by omega) (by omega)
  have e9 : (Value.ref h.1.1 :: st).map (e_v (e_Enew E h.1.1 q cA)) = Value.ref q :: st.map (e_v E) := by
    rw [List.map_cons, o2]
    simp [e_v, e_Enew]
  rw [e9] at k
  exact k
theorem e_def : ∀ ci, ci < 12 → ∀ j, j < (e_C ci).2.2 → defaultValue (e_tyF ci j) = if e_rf ci j = true then .null else .int 0 := by decide +kernel
/-- new: the words, at a point of any method -/
theorem e_newW {p : Program} {e : Env} {s : State} {m : MethodId} {args : Array Value} {below : List Frame} {meth : Method} {c : Code} {H : Heap} {locs : List Loc} {cells slots : Nat} {Q : State → Prop} {ls : Array Slot} {A : Nat → Prop} {E : e_E} {cc : ByteArray} {own : String} {rest : List Value} {idx ci : Nat} (hx : p.tables.exec = Jvm.exec) (hb : c.code = cc) (hown : s.vm.findClass own = some m.cls) (hts : ∀ w ∈ e_big, w.before args s = true) (N : e_Now D A E h s H locs) (hd : decode cc pc = .ok (.new idx, 3)) (hci : ci < 12)
    (hw : Cond.classLink own idx (e_C ci).1 ∈ e_big) (w2 : Cond.instantiable (e_C ci).1 (e_C ci).2.2 ∈ e_big) (w3 : Cond.initialized (e_C ci).1 ∈ e_big) (hm : h.1.1 + 1 ≤ 1000000) (h1 : cells + 1 ≤ R.cells) (h2 : slots + (e_C ci).2.2 ≤ R.slots)
    (kk : ∀ (q : Nat) (H1 : Heap), e_Now D A (e_Enew E h.1.1 q 0) (e_new h (10 + ci) (e_C ci).2.2) s H1 locs → W p l e R s m args below meth c H1 locs (cells + 1) (slots + (e_C ci).2.2) Q (F0 m (pc + 3) ls (.ref q :: rest))) : W p l e R s m args below meth c H locs cells slots Q (F0 m pc ls rest) := by
  refine va_new (own := own) (C := (e_C ci).1) (T := (e_C ci).2.1) (N := (e_C ci).2.2) (fs := (List.range (e_C ci).2.2).map fun j => if e_rf ci j = true then .null else .int 0) hx hb hts (e_lays ci hci) (e_tyF ci) (e_types ci hci) hown (hts _ hw) (hts _ w2) (hts _ w3) N.2.2.2.1.1 N.1 N.2.1 N.2.2.1 N.2.2.2.2.2.2 (e_cls_at ci hci) (fun j hj => ?_) h1 h2 hd (fun q H1 hP hD hS => ?_)
  · rw [e_def ci hci j hj]
    simp [vp_V, hj]
  · refine kk q H1 (N.new ?_ hm hP hD hS (fun z => absurd z (by omega)))
    have s1 : (e_new h (10 + ci) (e_C ci).2.2).1.2 h.1.1 = (10 + ci, (e_C ci).2.2) := by simp [e_new]
    refine (e_c_ob (by rw [s1])).trans ?_
    unfold e_fs
    congr 2
    apply List.map_congr_left
    intro j _
    simp [e_new, va_rf]
theorem X.new {idx ci : Nat} (hd : decode M.2.1 pc = .ok (.new idx, 3)) (hci : ci < 12) {len : Nat} (hlen : (e_C ci).2.2 = len) (hw : Cond.classLink M.1.cls idx (e_C ci).1 ∈ e_big) (w2 : Cond.instantiable (e_C ci).1 (e_C ci).2.2 ∈ e_big) (w3 : Cond.initialized (e_C ci).1 ∈ e_big) (hm : h.1.1 + 1 ≤ 1000000) (hok : e_okl h.1.1 (h.1.1 + 1) lc st = true)
    (K : X l D R M bc bs (pc + 3) lc (.ref h.1.1 :: st) (e_new h (10 + ci) len) r h') : X l D R M (bc + 1) (bs + len) pc lc st h r h' := by
  intro p e s m args below meth c H locs cells slots E0 h0 E ls C hin N ext L bC bS
  subst hlen
  refine e_newW C.1 C.2.1 C.2.2.2.2.1 C.2.2.2.2.2.1 N hd hci hw w2 w3 hm (by omega) (by omega) (fun q H1 N1 => ?_)
  have x1 : e_ext E h.1.1 (e_Enew E h.1.1 q 0) (h.1.1 + 1) := e_ext_new hm
  obtain ⟨o1, o2⟩ := e_lc_ext x1 hok
  have k := K p e s m args below meth c H1 locs (cells + 1) (slots + (e_C ci).2.2) E0 h0 (e_Enew E h.1.1 q 0) ls C hin N1 (ext.trans x1) (by rw [o1]; exact L) (by omega) (by omega)
  have e9 : (Value.ref h.1.1 :: st).map (e_v (e_Enew E h.1.1 q 0)) = Value.ref q :: st.map (e_v E) := by
    rw [List.map_cons, o2]
    simp [e_v, e_Enew]
  rw [e9] at k
  exact k
/-- a constructor's call, that may make cells -/
theorem X.callI {idx ci b : Nat} {M' : e_M} {R' : Room} {av : List Value} {h1 : e_H} (hd : decode M.2.1 pc = .ok (.invokespecial idx, 3)) (hc : CT l D R' M' (.ref b :: av) h none h1) (hw : ∀ w ∈ ([.methodLink M.1.cls idx M'.1, .instanceMethod M'.1, .initialized M'.1.cls, Cond.code M'.1 M'.2.1 M'.2.2.1 none] : List Cond), w ∈ e_big) (hnm : M'.1.name = "<init>") (hrt : M'.2.2.2 = none) (hm : e_Mok M' av.length) (hR : e_Rm R R' M'.2.2.1) (hst : (st.map fun v => v.category).sum ≤ 8) (hok : e_okl h.1.1 h1.1.1 lc st = true)
    (K : X l D R M bc bs (pc + 3) lc st h1 r h') : X l D R M (bc + R'.cells) (bs + R'.slots) pc lc (av.reverse ++ .ref b :: st) h r h' := by
  intro p e s m args below meth c H locs cells slots E0 h0 E ls C hin N ext L bC bS
  have hts := C.2.2.2.2.2.1
  have hws : ∀ w ∈ Cond.code M'.1 M'.2.1 M'.2.2.1 M'.2.2.2 :: e_big, w ∈ e_big := by
    intro w hq
    rcases List.mem_cons.mp hq with hq | hq
    · exact hw w (by rw [hq, hrt]; simp)
    · exact hq
  have hcw := cwI (R := R) (s := s) (args := args) (own := M.1.cls) (index := idx) (y := M'.1) (bytes := M'.2.1) (maxL := M'.2.2.1) (mc := R'.cells) (ms := R'.slots) (ws' := e_big) av.length hts (e_goodIn hws) (by rw [hrt]) rfl rfl (hts _ (hw _ (by simp))) (hts _ (hw _ (by simp))) (hts _ (hw _ (by simp))) hnm hm hR
  have hrun := va_runI (p := p) (e := e) (below := below) (meth := meth) (H := H) (locs := locs) (cells := cells) (slots := slots) (As := av.map (e_v E)) (b := E.1 b) (rest := st.map (e_v E)) (g := F0 m pc ls ((av.reverse ++ .ref b :: st).map (e_v E))) ⟨C.1, C.2.1, C.2.2.1, C.2.2.2.2.1, hts⟩ (hc E H.size) hcw
    ⟨e_blind, fun U hU hW => ⟨rfl, e_Pc_ok N hU hW⟩⟩ rfl (by rw [List.length_map]) L.1 (by simp [e_v, List.map_reverse]) (lv_room (by rw [e_cats]; exact hst)) hd ⟨by omega, by omega⟩
  refine e_call N hrun (fun E' H1 locs1 N1 hx => ?_)
  obtain ⟨o1, o2⟩ := e_lc_ext hx hok
  have k := K p e s m args below meth c H1 locs1 (cells + R'.cells) (slots + R'.slots) E0 h0 E' ls C hin N1 (ext.trans hx) (by rw [o1]; exact L) (by omega) (by omega)
  rw [o2] at k
  exact k
/-- an overridden method: by the receiver's class -/
theorem X.callU {idx ci b : Nat} {x : MethodName} {owner : String} {M' : e_M} {R' : Room} {av : List Value} {r1 : Option Value} {g : e_G} (hd : decode M.2.1 pc = .ok (.invokevirtual idx, 3)) (hc : CT l D R' M' (.ref b :: av) h r1 (h.1, g)) (hw : ∀ w ∈ va_wsU M.1.cls idx (e_C ci).1 owner x M'.1 [Cond.code M'.1 M'.2.1 M'.2.2.1 M'.2.2.2], w ∈ e_big) (hci : ci < 12) (hz : ⟨owner, x.name, x.desc⟩ ∈ e_decl ∨ M'.1 = ⟨owner, x.name, x.desc⟩ ∨ Cond.instanceMethod ⟨owner, x.name, x.desc⟩ ∈ e_big ∧ ∃ b0 m0 r0, Cond.code ⟨owner, x.name, x.desc⟩ b0 m0 r0 ∈ e_big) (hm : owner ≠ "java/lang/invoke/MethodHandle" ∧ owner ≠ "java/lang/invoke/VarHandle" ∧ (parseMethodDescriptor x.desc).map (fun d => d.parameters.length) = some av.length) (ho : e_ob h.1 ci b = true) (hR : e_Rm R R' M'.2.2.1) (hz0 : R'.cells = 0 ∧ R'.slots = 0) (hst : (st.map fun v => v.category).sum ≤ 8)
    (K : X l D R M bc bs (pc + 3) lc (r1.toList ++ st) (h.1, g) r h') : X l D R M bc bs pc lc (av.reverse ++ .ref b :: st) h r h' := by
  intro p e s m args below meth c H locs cells slots E0 h0 E ls C hin N ext L bC bS
  have hws : ∀ w ∈ va_wsU M.1.cls idx (e_C ci).1 owner x M'.1 (Cond.code M'.1 M'.2.1 M'.2.2.1 M'.2.2.2 :: e_big), w ∈ e_big := by
    intro w hq
    unfold va_wsU at hq hw
    rcases List.mem_append.mp hq with hq | hq
    · exact hw w (List.mem_append_left _ hq)
    · rcases List.mem_cons.mp hq with hq | hq
      · exact hw w (List.mem_append_right _ (by rw [hq]; exact List.mem_singleton.mpr rfl))
      · exact hq
  have hcw : va_CU R s args M.1.cls (e_C ci).1 owner idx x M'.1 M'.2.1 M'.2.2.1 M'.2.2.2 (Cond.code M'.1 M'.2.1 M'.2.2.1 M'.2.2.2 :: e_big) R' R'.cells R'.slots av.length := by
    rcases hz with hz | hz | ⟨hz, b0, m0, r0, hz2⟩
    · exact va_cwA av.length C.2.2.2.2.2.1 (e_goodIn hws) rfl rfl rfl (N.2.2.2.1.2.2.1.2.2.1 _ hz) hm hR
    · exact va_cwU av.length C.2.2.2.2.2.1 (e_goodIn hws) rfl rfl rfl hz hm hR
    · refine va_cwO av.length C.2.2.2.2.2.1 (e_goodIn (fun w hq => ?_)) rfl rfl rfl hz2 hm hR
      unfold va_wsO at hq
      rcases List.mem_append.mp hq with hq | hq
      · by_cases q : w = .instanceMethod ⟨owner, x.name, x.desc⟩
        · rw [q]; exact hz
        · refine hws w ?_
          unfold va_wsU
          simp only [List.mem_cons, List.not_mem_nil, or_false, List.mem_append] at hq ⊢
          rcases hq with hq | hq | hq | hq | hq | hq
          · exact Or.inl (Or.inl hq)
          · exact Or.inl (Or.inr (Or.inl hq))
          · exact absurd hq q
          · exact Or.inl (Or.inr (Or.inr (Or.inl hq)))
          · exact Or.inl (Or.inr (Or.inr (Or.inr (Or.inl hq))))
          · exact Or.inl (Or.inr (Or.inr (Or.inr (Or.inr hq))))
      · refine hws w ?_
        unfold va_wsU
        exact List.mem_append_right _ hq
  have hrun := va_runU (p := p) (e := e) (below := below) (meth := meth) (H := H) (locs := locs) (cells := cells) (slots := slots) (As := av.map (e_v E)) (b := E.1 b) (rest := st.map (e_v E)) (g := F0 m pc ls ((av.reverse ++ .ref b :: st).map (e_v E))) ⟨C.1, C.2.1, C.2.2.1, C.2.2.2.2.1, C.2.2.2.2.2.1⟩ (hc E H.size) hcw
    ⟨e_blind, e_recv N ho hci, fun U hU hW => ⟨rfl, e_Pc_ok N hU hW⟩⟩ rfl (by rw [List.length_map]) L.1 (by simp [e_v, List.map_reverse]) (lv_room (by rw [e_cats]; exact hst)) hd ⟨by omega, by omega⟩
  refine e_call N hrun (fun E' H1 locs1 N1 hx => ?_)
  have := hx.same
  subst this
  have k := K p e s m args below meth c H1 locs1 (cells + R'.cells) (slots + R'.slots) E0 h0 E' ls C hin N1 ext L (by omega) (by omega)
  rw [List.map_append] at k
  have e9 : (r1.map (e_v E')).toList = r1.toList.map (e_v E') := by cases r1 <;> rfl
  rw [e9]
  exact k
end E6
