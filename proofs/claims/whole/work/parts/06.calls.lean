/-- System.arraycopy between rows of ints, as the class calls it -/
def e_cpy (S : e_S) (g : e_G) (a : Nat) (sp : Int32) (b : Nat) (dp n : Int32) : Option e_G :=
  if (e_ar S 0 a && e_ar S 0 b && decide (0 ≤ sp) && decide (0 ≤ dp) && decide (0 ≤ n) && decide (sp.toNatClampNeg + n.toNatClampNeg ≤ (S.2 a).2) && decide (dp.toNatClampNeg + n.toNatClampNeg ≤ (S.2 b).2)) = true then
    some (fun q => if q = b then va_cpy (g.1 a) (g.1 b) sp.toNatClampNeg dp.toNatClampNeg n.toNatClampNeg else g.1 q, g.2) else none
theorem e_F.warm {s U : State} (hW : s.WarmedH U.vm) (h : e_F s) : e_F U := h.moved hW.alike
theorem e_Str.kept {E : e_E} {A : Nat → Prop} {s : State} {H H1 : Heap} (h : e_Str E A s H) (hq : ∀ a : Nat, a < H.size → ¬ A a → H1[a]? = H[a]?) : e_Str E A s H1 := ⟨h.1.kept hq, h.2.1, h.2.2.1.kept hq, h.2.2.2.kept hq⟩
theorem e_Str.narrow {E : e_E} {A B : Nat → Prop} {s : State} {H : Heap} (h : e_Str E A s H) (hq : ∀ q, B q → A q) : e_Str E B s H := ⟨h.1.narrow hq, h.2.1, h.2.2.1.narrow hq, h.2.2.2.narrow hq⟩
theorem e_Str.warm {E : e_E} {A : Nat → Prop} {s U : State} {H : Heap} (hW : s.WarmedH U.vm) (h : e_Str E A s H) : e_Str E A U H := ⟨h.1.moved hW.alike, fun i q hq => (h.2.1 i q hq).warm hW, h.2.2.1.moved hW.alike, h.2.2.2.moved hW.alike⟩
theorem e_Str.same {E : e_E} {A : Nat → Prop} {s U : State} {H : Heap} (hv : U.vm = s.vm) (h : e_Str E A s H) : e_Str E A U H := ⟨h.1.moved (by rw [hv]; exact Vm.Alike.refl _), fun i q hq => (h.2.1 i q hq).same hv, h.2.2.1.moved (by rw [hv]; exact Vm.Alike.refl _), h.2.2.2.moved (by rw [hv]; exact Vm.Alike.refl _)⟩
theorem e_ext.refl {E : e_E} {n : Nat} (hn : n ≤ 1000000) : e_ext E n E n := ⟨Nat.le_refl _, hn, fun _ _ => ⟨rfl, rfl⟩⟩
theorem e_ext.trans {E0 E1 E2 : e_E} {n0 n1 n2 : Nat} (a : e_ext E0 n0 E1 n1) (b : e_ext E1 n1 E2 n2) : e_ext E0 n0 E2 n2 :=
  ⟨Nat.le_trans a.1 b.1, b.2.1, fun k hk => by
    have h1 := a.1
    have h2 := b.1
    obtain ⟨p, q⟩ := b.2.2 k (by omega)
    obtain ⟨p', q'⟩ := a.2.2 k (by omega)
    exact ⟨p.trans p', q.trans q'⟩⟩
theorem e_ext.same {E0 E1 : e_E} {n : Nat} (a : e_ext E0 n E1 n) : E1 = E0 := by
  refine Prod.ext (funext fun k => ?_) (funext fun k => ?_)
  · exact (a.2.2 k (by omega)).1
  · exact (a.2.2 k (by omega)).2
/-- what a callee is given -/
theorem e_Pc_ok {D : va_G} {A : Nat → Prop} {E : e_E} {h : e_H} {s : State} {H : Heap} {locs : List Loc} (N : e_Now D A E h s H locs) {U : State} (hU : U.heap = H) (hW : s.WarmedH U.vm) :
    U.heap.size = H.size ∧ e_P D E h U.heap ∧ va_D (fun _ => True) (e_ws E h) ∧ e_K D E h U ∧ e_Str E (e_A E h H.size) U U.heap ∧ h.1.1 ≤ 1000000 := by
  obtain ⟨hP, hD, hS, hK, hStr, hn, hA⟩ := N
  have hF : ∀ q, e_A E h H.size q → A q := by
    intro q hq
    rcases hq with ⟨k, e, hq⟩ | hq
    · exact hD.2 k _ hq
    · exact hA q (Nat.le_trans hS.1 hq)
  exact ⟨by rw [hU], by rw [hU]; exact hP, hD.weaken (fun _ _ _ _ => trivial), hK.moved hW.alike, by rw [hU]; exact ((hStr.kept hS.2.1).warm hW).narrow hF, hn⟩
theorem e_blind {D : va_G} {E : e_E} {h : e_H} {sz : Nat} {av : List Value} : FrameBlind (va_Pc av (fun U => U.heap.size = sz ∧ e_P D E h U.heap ∧ va_D (fun _ => True) (e_ws E h) ∧ e_K D E h U ∧ e_Str E (e_A E h sz) U U.heap ∧ h.1.1 ≤ 1000000)) := by
  intro a U g mk q
  obtain ⟨q0, q1, qP, qD, qK, qS, qn⟩ := q
  exact ⟨q0, q1, qP, qD, qK.moved (U := U.calling g mk a) (Vm.Alike.refl U.vm), qS.same (U := U.calling g mk a) rfl, qn⟩
/-- BEHIND A CALL: the world is the callee's -/
theorem e_call {p : Program} {l : Launch} {e : Env} {R : Room} {s : State} {m : MethodId} {args : Array Value} {below : List Frame} {meth : Method} {c : Code} {H : Heap} {locs : List Loc} {cells slots mc ms : Nat} {Q : State → Prop} {pc : Nat} {ls : Array Slot} {st0 rest : List Value} {a : Array Value} {D : va_G} {A : Nat → Prop} {E : e_E} {h h1 : e_H} {r : Option Value}
    (N : e_Now D A E h s H locs) (hr : va_Run p l e R s m args below meth c H locs cells slots mc ms (F0 m pc ls st0) rest (e_Q D E h r h1 a) (e_A E h H.size))
    (kk : ∀ (E' : e_E) (H1 : Heap) (locs1 : List Loc), e_Now D A E' h1 s H1 locs1 → e_ext E h.1.1 E' h1.1.1 → W p l e R s m args below meth c H1 locs1 (cells + mc) (slots + ms) Q (F0 m (pc + 3) ls ((r.map (e_v E')).toList ++ rest))) : W p l e R s m args below meth c H locs cells slots Q (F0 m pc ls st0) := by
  obtain ⟨hP, hD, hS, hK, hStr, hn, hA⟩ := N
  have hF : ∀ q, e_A E h H.size q → A q := by
    intro q hq
    rcases hq with ⟨k, e, hq⟩ | hq
    · exact hD.2 k _ hq
    · exact hA q (Nat.le_trans hS.1 hq)
  intro T hT X
  obtain ⟨v, st₀, t, T', L, h0, X', hL, e1, e2, ⟨⟨E', hv, hP1, hD1, hK1, hx⟩, hz, hk⟩, st⟩ := hr T hT X
  cases hv
  rw [h0] at hz hk hD1
  have hvm : s.vm.Alike t.vm := by rw [← e2]; exact X'.warmed.alike
  obtain ⟨t2, a1, b1⟩ := kk E' T'.heap (locs ++ L) ⟨by rw [e1]; exact hP1, hD1.weaken (fun _ _ _ z => hF _ z), ⟨Nat.le_trans hS.1 (by rw [e1]; exact hz), fun q h1 h2 => by rw [e1, hk q (Nat.lt_of_lt_of_le h1 hS.1) (fun z => h2 (hF q z))]; exact hS.2.1 q h1 h2, fun q hq => by
      rcases List.mem_append.mp hq with h | h
      · exact hS.2.2 q h
      · exact hF _ (hL q h)⟩, hK1.moved hvm.symm, ⟨by
        have q : (fun i => E'.1 (1000000 + i)) = (fun i => E.1 (1000000 + i)) := funext fun i => (hx.2.2 _ (by have := hx.2.1; omega)).1
        have q2 : (fun i => E'.1 (2000000 + i)) = (fun i => E.1 (2000000 + i)) := funext fun i => (hx.2.2 _ (by have := hx.2.1; omega)).1
        rw [q, q2]
        exact hStr.1, fun i q hq => by
        rw [(hx.2.2 (1000000 + i) (by have := hx.2.1; omega)).1]
        exact hStr.2.1 i q hq, hStr.2.2.1, by
        have q3 : e_v E' (.retAddr 0) = e_v E (.retAddr 0) := by
          show (if E'.1 3000000 = 0 then Value.null else .ref (E'.1 3000001)) = (if E.1 3000000 = 0 then Value.null else .ref (E.1 3000001))
          rw [(hx.2.2 3000000 (by have := hx.2.1; omega)).1, (hx.2.2 3000001 (by have := hx.2.1; omega)).1]
        rw [q3]
        exact hStr.2.2.2⟩, hx.2.1, hA⟩ hx T' rfl X'
  exact ⟨t2, st t2 a1, b1⟩
section E5
variable {l : Launch} {D : va_G} {R : Room} {M : e_M} {bc bs pc : Nat} {lc : List (Nat × Value)} {st : List Value} {h : e_H} {r : Option Value} {h' : e_H}
theorem X.mabs {index : Nat} {x : Int32} (hd : decode M.2.1 pc = .ok (.invokestatic index, 3)) (hw : Cond.methodLink M.1.cls index Lib.Math.abs.name ∈ e_big) (w2 : (Cond.static Lib.Math.abs.name) ∈ e_big) (w3 : (Cond.initialized "java/lang/Math") ∈ e_big) (w4 : (Cond.code Lib.Math.abs.name Lib.Math.abs.code 1 (some .int)) ∈ e_big) (hR : 1 ≤ R.frames ∧ 21 ≤ R.locals) (hst : (st.map fun v => v.category).sum ≤ 8) (K : X l D R M bc bs (pc + 3) lc (.int (if 0 ≤ x then x else 0 - x) :: st) h r h') : X l D R M bc bs pc lc (.int x :: st) h r h' := by
  intro p e s m args below meth c H locs cells slots E0 h0 E ls C hin N ext L bC bS
  exact va_mabs C.1 C.2.1 (C.2.2.1.trans L.1.symm) C.2.2.2.2.1 (C.2.2.2.2.2.1 _ hw) (C.2.2.2.2.2.1 _ w2) (C.2.2.2.2.2.1 _ w3) (C.2.2.2.2.2.1 _ w4) hR.1 (by rw [e_cats]; omega) (by omega) (by omega) hd (K p e s m args below meth c H locs cells slots E0 h0 E ls C hin N ext L bC bS)
theorem X.acopy {index a b : Nat} {sp dp n : Int32} {g : e_G} (hd : decode M.2.1 pc = .ok (.invokestatic index, 3)) (hw : Cond.methodLink M.1.cls index arraycopyName ∈ e_big) (w1 : (Cond.native arraycopyName) ∈ e_big) (w2 : (Cond.static arraycopyName) ∈ e_big) (w3 : (Cond.initialized "java/lang/System") ∈ e_big) (hR : 1 ≤ R.frames ∧ 100 ≤ R.locals) (hst : (st.map fun v => v.category).sum ≤ 8) (hg : e_cpy h.1 h.2 a sp b dp n = some g) (K : X l D R M bc bs (pc + 3) lc st (h.1, g) r h') : X l D R M bc bs pc lc (.int n :: .int dp :: .ref b :: .int sp :: .ref a :: st) h r h' := by
  intro p e s m args below meth c H locs cells slots E0 h0 E ls C hin N ext L bC bS
  unfold e_cpy at hg
  split at hg
  next ho =>
    simp only [Bool.and_eq_true, decide_eq_true_eq] at ho
    obtain ⟨⟨⟨⟨⟨⟨ha, hb⟩, o1⟩, o2⟩, o3⟩, o4⟩, o5⟩ := ho
    obtain ⟨a1, a2⟩ := e_ar_iff.mp ha
    obtain ⟨b1, b2⟩ := e_ar_iff.mp hb
    cases hg
    have hKa := N.2.2.2.1.arr a1 a2 (by omega)
    have hKb := N.2.2.2.1.arr b1 b2 (by omega)
    refine va_copyi C.1 C.2.1 (C.2.2.1.trans L.1.symm) C.2.2.2.2.1 (C.2.2.2.2.2.1 _ hw) (C.2.2.2.2.2.1 _ w1) (C.2.2.2.2.2.1 _ w2) (C.2.2.2.2.2.1 _ w3) (hKa.app hKb) N.1 N.2.1 N.2.2.1 a b 0 1 ((e_ws_at a1).trans (by rw [e_c_in (by omega)])) ((e_ws_at b1).trans (by rw [e_c_in (by omega)])) rfl rfl rfl (Int32.not_lt.mpr o1) (Int32.not_lt.mpr o2) (Int32.not_lt.mpr o3) o4 o5 (fun _ _ => rfl) hR.1 ?_ hd (fun H1 locs1 hP hD hS => ?_)
    · rw [e_cats]
      have : nativeFrameWords "java/lang/System" "arraycopy" 5 ≤ 80 := by decide +kernel
      omega
    · refine K p e s m args below meth c H1 locs1 cells slots E0 h0 E ls C hin (N.put (h' := (h.1, (fun q => if q = b then va_cpy (h.2.1 a) (h.2.1 b) sp.toNatClampNeg dp.toNatClampNeg n.toNatClampNeg else h.2.1 q, h.2.2))) rfl N.2.2.2.1.2.2.2 b1 ?_ (fun j hj => ⟨by simp [hj], rfl⟩) hP hD hS) ext L bC bS
      refine (e_c_in (h := (h.1, (fun q => if q = b then va_cpy (h.2.1 a) (h.2.1 b) sp.toNatClampNeg dp.toNatClampNeg n.toNatClampNeg else h.2.1 q, h.2.2))) (a := b) (show (h.1.2 b).1 < 2 by omega)).trans ?_
      simp
  next => cases hg
/-- a call that makes nothing: the words, the receiver's class -/
theorem e_good (w : Cond) (hw : w ∈ e_big) : (w.onTables && w.keeps) = true ∨ ∃ ty, w = .arrayClass ty := good_of_word (List.mem_filter.mp hw).2
theorem e_goodIn {ws : List Cond} (h : ∀ w ∈ ws, w ∈ e_big) : GoodIn e_big ws := fun w hw => ⟨h w hw, e_good w (h w hw)⟩
theorem e_recv {A : Nat → Prop} {E : e_E} {s : State} {H : Heap} {locs : List Loc} {ci a : Nat} (N : e_Now D A E h s H locs) (ho : e_ob h.1 ci a = true) (hci : ci < 12) : ∃ cell : Cell, H[E.1 a]? = some cell ∧ cell.vm.isStatics = false ∧ s.vm.findClass (e_C ci).1 = some cell.cls := by
  obtain ⟨h1, h2⟩ := e_ob_iff.mp ho
  exact va_recv N.2.2.2.1.1 N.1 (e_cls_at ci hci) ((e_ws_at h1).trans (by rw [e_c_ob h2]))
/-- the room of a callee in its caller's -/
def e_Rm (R R' : Room) (maxL : Nat) : Prop := R'.frames + 1 ≤ R.frames ∧ 8 + (maxL + 11) + R'.locals ≤ R.locals
def e_Mok (M : e_M) (n : Nat) : Prop := M.1.cls ≠ "java/lang/invoke/MethodHandle" ∧ M.1.cls ≠ "java/lang/invoke/VarHandle" ∧ (parseMethodDescriptor M.1.desc).map (fun d => d.parameters.length) = some n
theorem X.callV {idx ci b : Nat} {M' : e_M} {R' : Room} {av : List Value} {r1 : Option Value} {g : e_G} (hd : decode M.2.1 pc = .ok (.invokevirtual idx, 3)) (hc : CT l D R' M' (.ref b :: av) h r1 (h.1, g)) (hw : ∀ w ∈ wsV M.1.cls idx (e_C ci).1 M'.1 [Cond.code M'.1 M'.2.1 M'.2.2.1 M'.2.2.2], w ∈ e_big) (hci : ci < 12) (hcl : M'.1.cls = (e_C ci).1) (hm : e_Mok M' av.length) (ho : e_ob h.1 ci b = true) (hR : e_Rm R R' M'.2.2.1) (hz : R'.cells = 0 ∧ R'.slots = 0) (hst : (st.map fun v => v.category).sum ≤ 8)
    (K : X l D R M bc bs (pc + 3) lc (r1.toList ++ st) (h.1, g) r h') : X l D R M bc bs pc lc (av.reverse ++ .ref b :: st) h r h' := by
  intro p e s m args below meth c H locs cells slots E0 h0 E ls C hin N ext L bC bS
  have hws : ∀ w ∈ wsV M.1.cls idx (e_C ci).1 M'.1 (Cond.code M'.1 M'.2.1 M'.2.2.1 M'.2.2.2 :: e_big), w ∈ e_big := by
    intro w hq
    unfold wsV at hq hw
    rcases List.mem_append.mp hq with hq | hq
    · exact hw w (List.mem_append_left _ hq)
    · rcases List.mem_cons.mp hq with hq | hq
      · exact hw w (List.mem_append_right _ (by rw [hq]; exact List.mem_singleton.mpr rfl))
      · exact hq
  have hcw : CallW R s args M.1.cls (e_C ci).1 idx M'.1 M'.2.1 M'.2.2.1 M'.2.2.2 (Cond.code M'.1 M'.2.1 M'.2.2.1 M'.2.2.2 :: e_big) R' R'.cells R'.slots av.length := cwV av.length C.2.2.2.2.2.1 (e_goodIn hws) rfl rfl rfl ⟨hcl, hm⟩ hR
  have hrun := va_runV (p := p) (e := e) (below := below) (meth := meth) (H := H) (locs := locs) (cells := cells) (slots := slots) (As := av.map (e_v E)) (b := E.1 b) (rest := st.map (e_v E)) (g := F0 m pc ls ((av.reverse ++ .ref b :: st).map (e_v E))) ⟨C.1, C.2.1, C.2.2.1, C.2.2.2.2.1, C.2.2.2.2.2.1⟩ (hc E H.size) hcw
    ⟨e_blind, e_recv N ho hci, fun U hU hW => ⟨rfl, e_Pc_ok N hU hW⟩⟩ rfl (by rw [List.length_map]) L.1 (by simp [e_v, List.map_reverse]) (lv_room (by rw [e_cats]; exact hst)) hd ⟨by omega, by omega⟩
  refine e_call N hrun (fun E' H1 locs1 N1 hx => ?_)
  have := hx.same
  subst this
  have k := K p e s m args below meth c H1 locs1 (cells + R'.cells) (slots + R'.slots) E0 h0 E' ls C hin N1 ext L (by omega) (by omega)
  rw [List.map_append] at k
  have e9 : (r1.map (e_v E')).toList = r1.toList.map (e_v E') := by cases r1 <;> rfl
  rw [e9]
  exact k
theorem X.callS {idx : Nat} {M' : e_M} {R' : Room} {av : List Value} {r1 : Option Value} {g : e_G} (hd : decode M.2.1 pc = .ok (.invokestatic idx, 3)) (hc : CT l D R' M' av h r1 (h.1, g)) (hw : ∀ w ∈ va_wsS M.1.cls idx M'.1 [Cond.code M'.1 M'.2.1 M'.2.2.1 M'.2.2.2], w ∈ e_big) (hm : e_Mok M' av.length) (hR : e_Rm R R' M'.2.2.1) (hz : R'.cells = 0 ∧ R'.slots = 0) (hst : (st.map fun v => v.category).sum ≤ 8)
    (K : X l D R M bc bs (pc + 3) lc (r1.toList ++ st) (h.1, g) r h') : X l D R M bc bs pc lc (av.reverse ++ st) h r h' := by
  intro p e s m args below meth c H locs cells slots E0 h0 E ls C hin N ext L bC bS
  have hws : ∀ w ∈ va_wsS M.1.cls idx M'.1 (Cond.code M'.1 M'.2.1 M'.2.2.1 M'.2.2.2 :: e_big), w ∈ e_big := by
    intro w hq
    unfold va_wsS at hq hw
    rcases List.mem_append.mp hq with hq | hq
    · exact hw w (List.mem_append_left _ hq)
    · rcases List.mem_cons.mp hq with hq | hq
      · exact hw w (List.mem_append_right _ (by rw [hq]; exact List.mem_singleton.mpr rfl))
      · exact hq
  have hcw := va_cwS (R := R) (s := s) (args := args) (own := M.1.cls) (index := idx) (y := M'.1) (bytes := M'.2.1) (maxL := M'.2.2.1) (ret := M'.2.2.2) (mc := R'.cells) (ms := R'.slots) av.length C.2.2.2.2.2.1 (e_goodIn hws) rfl rfl rfl hm hR
  have hrun := va_runS (p := p) (e := e) (below := below) (meth := meth) (H := H) (locs := locs) (cells := cells) (slots := slots) (As := av.map (e_v E)) (rest := st.map (e_v E)) (g := F0 m pc ls ((av.reverse ++ st).map (e_v E))) ⟨C.1, C.2.1, C.2.2.1, C.2.2.2.2.1, C.2.2.2.2.2.1⟩ (hc E H.size) hcw
    ⟨e_blind, fun U hU hW => ⟨rfl, e_Pc_ok N hU hW⟩⟩ rfl (by rw [List.length_map]) L.1 (by simp [List.map_reverse]) (lv_room (by rw [e_cats]; exact hst)) hd ⟨by omega, by omega⟩
  refine e_call N hrun (fun E' H1 locs1 N1 hx => ?_)
  have := hx.same
  subst this
  have k := K p e s m args below meth c H1 locs1 (cells + R'.cells) (slots + R'.slots) E0 h0 E' ls C hin N1 ext L (by omega) (by omega)
  rw [List.map_append] at k
  have e9 : (r1.map (e_v E')).toList = r1.toList.map (e_v E') := by cases r1 <;> rfl
  rw [e9]
  exact k
/-- a contract, out of its body -/
theorem CT.of {av : List Value} {r1 : Option Value} {h1 : e_H} (hy : plainName M.1.cls = true) (hl : (lg_sl av).length ≤ M.2.2.1) (K : X l D R M R.cells R.slots 0 (lv_args 0 av) [] h r1 h1) : CT l D R M av h r1 h1 := by
  intro E sz
  refine Met.ofW (cc := M.2.1) (maxL := M.2.2.1) (ret := M.2.2.2) hy rfl ?_
  intro p e s m args below meth c s₁ B hml hv
  obtain ⟨rfl, hsz, hP, hD0, hK, hStr, hn⟩ := hv
  have hts := atoms_spec (ws := Cond.code M.1 M.2.1 M.2.2.1 M.2.2.2 :: e_big) B.pre
  have hown : s.vm.findClass M.1.cls = some m.cls := findClass_of_methodNamed B.named
  subst hsz
  have ea : ∀ i : Nat, e_lc E (lv_args i av) = lv_args i (av.map (e_v E)) := by
    have key : ∀ (l : List Value) (i : Nat), e_lc E (lv_args i l) = lv_args i (l.map (e_v E)) := by
      intro l
      induction l with
      | nil => intro i; rfl
      | cons v l ih =>
        intro i
        show (i, e_v E v) :: e_lc E (lv_args (if v.category = 2 then i + 2 else i + 1) l) = (i, e_v E v) :: lv_args (if (e_v E v).category = 2 then i + 2 else i + 1) (l.map (e_v E))
        rw [ih, e_cat]
    exact key av
  have es : (lg_sl (av.map (e_v E))).length = (lg_sl av).length := by
    have key : ∀ l : List Value, (lg_sl (l.map (e_v E))).length = (lg_sl l).length := by
      intro l
      induction l with
      | nil => rfl
      | cons v l ih =>
        unfold lg_sl at ih ⊢
        simp only [List.map_cons, List.flatMap_cons, List.length_append, ih, e_cat]
        split <;> rfl
    exact key av
  have hl2 := lv_entry (av.map (e_v E)) (n := M.2.2.1) (by rw [es]; exact hl)
  rw [lg_entry_eq]
  generalize (lg_sl (av.map (e_v E)) ++ List.replicate (M.2.2.1 - (lg_sl (av.map (e_v E))).length) Slot.unset).toArray = ls at hl2 ⊢
  rw [← ea 0] at hl2
  have hA : ∀ q, s.heap.size ≤ q → e_A E h s.heap.size q := fun q hq => Or.inr hq
  have hin : M.1.name = "<init>" → meth.name = "<init>" := fun hq => ((name_of_methodNamed B.named B.method).1).trans hq
  exact K p e s m (av.map (e_v E)).toArray below meth c s.heap [] 0 0 E h E ls ⟨B.exec, B.bytes, hml, B.returns, hown, fun w hw => hts w (List.mem_cons_of_mem _ hw), B.notSynchronized⟩ hin ⟨hP, hD0.self, va_S.rf, hK, hStr, hn, hA⟩ (e_ext.refl hn) hl2 (by omega) (by omega)
end E5
