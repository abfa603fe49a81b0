/-! super.m(..), also of a class further up; calls on an object of any class -/
def e_any (S : e_S) (a : Nat) : Bool := decide (a < S.1) && decide (10 ≤ (S.2 a).1) && decide ((S.2 a).1 < 22)
theorem e_any_ob {S : e_S} {a : Nat} (h : e_any S a = true) : ∃ ci, ci < 12 ∧ e_ob S ci a = true := by
  simp only [e_any, Bool.and_eq_true, decide_eq_true_eq] at h
  exact ⟨(S.2 a).1 - 10, by omega, e_ob_iff.mpr ⟨h.1.1, by omega⟩⟩
theorem e_ob_any {S : e_S} {ci a : Nat} (h : e_ob S ci a = true) (hci : ci < 12) : e_any S a = true := by
  obtain ⟨h1, h2⟩ := e_ob_iff.mp h
  simp only [e_any, Bool.and_eq_true, decide_eq_true_eq]
  exact ⟨⟨h1, by omega⟩, by omega⟩
section E10
variable {p : Program} {l : Launch} {e : Env} {R : Room} {s : State} {m : MethodId} {args : Array Value} {below : List Frame} {meth : Method} {c : Code}
theorem e_callSU {T : State} {locs : List Loc} {cells slots : Nat} (X : Stand p l e R s m args below meth c T locs cells slots) (hexec : p.tables.exec = Jvm.exec) {own : String} {index : Nat} {x y : MethodName} {bytes : ByteArray} {maxL : Nat} {ret : Option FieldType}
    (hown : s.vm.findClass own = some m.cls) (hlink : (Cond.methodLink own index x).before args s = true) (hsame : (Cond.sameMethod x.cls y.cls x.name x.desc).before args s = true) (hsup : (Cond.superclass own x.cls).before args s = true) (hsup2 : x.cls = y.cls ∨ (Cond.superclass x.cls y.cls).before args s = true) (hxy : y.name = x.name ∧ y.desc = x.desc)
    (hinst : (Cond.instanceMethod y).before args s = true) (hcode : (Cond.code y bytes maxL ret).before args s = true) (hno : y.name ≠ "<init>")
    {W : Nat} {Pre : Pt → Array Value → Prop} {Post : Pt → Array Value → Option Value → Pt → Prop} (hK : Back l R p e below s args y 3 W Pre Post)
    {b : Addr} {cellB : Cell} {kB : Class} (hcell : T.heap[b]? = some cellB) (hobj : cellB.vm.isStatics = false) (hkB : s.vm.classes[cellB.cls]? = some kB)
    {g : JFrame} (hg : g.method = m) (hsize : g.locals.size = c.maxLocals) {argsL rest : List Value} (hlen : ∀ sig, parseMethodDescriptor y.desc = some sig → argsL.length = sig.parameters.length)
    (hstack : g.stack = argsL.reverse ++ .ref b :: rest) (hW : 2 * g.monitorRoom + (rest.map fun v => v.category).sum ≤ W) (hdg : decode c.code g.pc = .ok (.invokespecial index, 3))
    (hpre : ∀ vm₁, s.WarmedH vm₁ → Pre ⟨T.setVm vm₁, locs, cells, slots⟩ (Value.ref b :: argsL).toArray) :
    ∃ (v : Option Value) (vm₁ : Vm) (B : Pt), s.WarmedH vm₁ ∧ Stand p l e R s m args below meth c B.U B.locs B.cells B.slots ∧ Post ⟨T.setVm vm₁, locs, cells, slots⟩ (Value.ref b :: argsL).toArray v B ∧
      ∀ target, Steps p.tables e below (B.U.setTop { g with pc := g.pc + 3, stack := v.toList ++ rest }) target → Steps p.tables e below (T.setTop g) target := by
  obtain ⟨mk, methM, hnamed, hmethM, hstM, habM⟩ := Cond.instanceMethod_spec hinst
  obtain ⟨methM', cM, hmethM', -, -, -, -, -, -, hsigM⟩ := Cond.code_spec hnamed hcode
  cases hmethM.symm.trans hmethM'
  obtain ⟨ps, dk, kp, hps, hdk, hkp, hsuper, -, -, hnid⟩ := Cond.superclass_spec hown hsup
  have hy : y = ⟨y.cls, x.name, x.desc⟩ := by rw [← hxy.1, ← hxy.2]
  have hn : s.methodNamed? ⟨y.cls, x.name, x.desc⟩ = some mk := by rw [← hy]; exact hnamed
  have hym := findClass_of_methodNamed hnamed
  have hsub : s.vm.isSubclass ps mk.cls = true := by
    rcases hsup2 with q | q
    · rw [q] at hps
      have hpm : ps = mk.cls := Option.some.inj (hps.symm.trans hym)
      rw [hpm]; simp [Vm.isSubclass, Vm.isSubclassAux]
    · obtain ⟨ps2, dk2, kp2, hps2, hdk2, hkp2, hsuper2, -, -, -⟩ := Cond.superclass_spec hps q
      have hpm : ps2 = mk.cls := Option.some.inj (hps2.symm.trans hym)
      have hne : s.vm.classes.size ≠ 0 := by
        intro z
        have := (Array.getElem?_eq_some_iff.mp hdk2).1
        omega
      obtain ⟨n, hn2⟩ := Nat.exists_eq_succ_of_ne_zero hne
      unfold Vm.isSubclass
      rw [hn2]
      simp [Vm.isSubclassAux, hdk2, hsuper2, hpm]
  obtain ⟨vm₁, X₁, hstep₁⟩ := X.invokespecialUp hexec hown hlink hsame hn hmethM hstM habM (by rw [← hxy.1]; exact hno) hdk hnid hps hsuper hsub (a := b) (cell := cellB) hcell
    (fun z h => by rw [h] at hobj; cases hobj) hkB (g := g) hg (argsL := argsL) (rest := rest) (hlen _ hsigM) hstack hdg
  obtain ⟨v, B, X', hpost, hsteps⟩ := hK m meth c ⟨T.setVm vm₁, locs, cells, slots⟩ { g with stack := rest } (.invokespecial index) mk (Value.ref b :: argsL).toArray X₁ hg hsize hdg hW (X₁.named hnamed) (hpre vm₁ X₁.warmed)
  exact ⟨v, vm₁, B, X₁.warmed, X', hpost, fun target h => hstep₁ _ (by rw [doInvoke_state]; exact hsteps.trans h)⟩
end E10
section E11
variable {l : Launch} {D : va_G} {R : Room} {M : e_M} {bc bs pc : Nat} {lc : List (Nat × Value)} {st : List Value} {S : e_S} {g g1 : e_G} {r : Option Value} {h' : e_H}
theorem Y.callSU {idx b : Nat} {x : MethodName} {M' : e_M} {R' : Room} {av : List Value} {r1 : Option Value} (hd : decode M.2.1 pc = .ok (.invokespecial idx, 3)) (hc : CT l D R' M' (.ref b :: av) (S, g) r1 (S, g1)) (hw : ∀ w ∈ ([.methodLink M.1.cls idx x, .sameMethod x.cls M'.1.cls x.name x.desc, .superclass M.1.cls x.cls, .instanceMethod M'.1, .initialized M'.1.cls, Cond.code M'.1 M'.2.1 M'.2.2.1 M'.2.2.2] : List Cond), w ∈ e_big) (hw2 : x.cls = M'.1.cls ∨ Cond.superclass x.cls M'.1.cls ∈ e_big) (hxy : M'.1.name = x.name ∧ M'.1.desc = x.desc) (hno : M'.1.name ≠ "<init>") (hm : e_Mok M' av.length) (ho : e_any S b = true) (hR : e_Rm R R' M'.2.2.1) (hz : R'.cells = 0 ∧ R'.slots = 0) (hst : (st.map fun v => v.category).sum ≤ 8)
    (K : X l D R M bc bs (pc + 3) lc (r1.toList ++ st) (S, g1) r h') : X l D R M bc bs pc lc (av.reverse ++ .ref b :: st) (S, g) r h' := by
  intro p e s m args below meth c H locs cells slots E0 h0 E ls C hin N ext L bC bS
  have hts := C.2.2.2.2.2.1
  have hws : ∀ w ∈ Cond.code M'.1 M'.2.1 M'.2.2.1 M'.2.2.2 :: e_big, w ∈ e_big := by
    intro w hq
    rcases List.mem_cons.mp hq with hq | hq
    · exact hw w (by rw [hq]; simp)
    · exact hq
  obtain ⟨ci, hci, ho⟩ := e_any_ob ho
  obtain ⟨cell, c1, c2, c3⟩ := e_recv N ho hci
  obtain ⟨kB, hkB, -⟩ := Vm.findClass_spec c3
  have hK : Back l R p e below s args M'.1 3 8 (PreOf R R'.cells R'.slots _) (PostOf _ R'.cells R'.slots _) := back_of (bytes := M'.2.1) (maxL := M'.2.2.1) (ret := M'.2.2.2) (hc E H.size) e_blind rfl rfl hR.1 hR.2 (pay_in hts (e_goodIn hws)) List.mem_cons_self (fun a' U hW => word_at hW (Or.inl (by simp [Cond.onTables, Cond.keeps, Cond.steady])) (hts _ (hw (.initialized M'.1.cls) (by simp))))
  have hlen : ∀ sig, parseMethodDescriptor M'.1.desc = some sig → (av.map (e_v E)).length = sig.parameters.length := fun sig h => by
    have h2 := hm.2.2
    rw [h] at h2
    rw [List.length_map]
    exact (Option.some.inj h2).symm
  have hrun : va_Run p l e R s m args below meth c H locs cells slots R'.cells R'.slots (F0 m pc ls ((av.reverse ++ .ref b :: st).map (e_v E))) (st.map (e_v E)) (e_Q D E (S, g) r1 (S, g1) (Value.ref (E.1 b) :: av.map (e_v E)).toArray) (e_A E (S, g) H.size) := by
    intro T hT X
    obtain ⟨v, vm₁, ⟨U', l2, c2, s2⟩, hW₁, X', ⟨g', mk, t, L2, e1, e2, hq, h1, hL, h2, h3⟩, stp⟩ := e_callSU X C.1 (x := x) (y := M'.1) (bytes := M'.2.1) (maxL := M'.2.2.1) (ret := M'.2.2.2) C.2.2.2.2.1 (hts _ (hw (.methodLink M.1.cls idx x) (by simp))) (hts _ (hw (.sameMethod x.cls M'.1.cls x.name x.desc) (by simp))) (hts _ (hw (.superclass M.1.cls x.cls) (by simp))) (hw2.imp id (fun z => hts _ z)) hxy (hts _ (hw (.instanceMethod M'.1) (by simp))) (hts _ (hw (Cond.code M'.1 M'.2.1 M'.2.2.1 M'.2.2.2) (by simp))) hno hK (by rw [hT]; exact c1) c2 hkB (g := F0 m pc ls ((av.reverse ++ .ref b :: st).map (e_v E))) rfl (by rw [C.2.2.1]; exact L.1) (argsL := av.map (e_v E)) (rest := st.map (e_v E)) hlen (by simp [e_v, List.map_reverse]) (lv_room (by rw [e_cats]; exact hst)) (by rw [C.2.1]; exact hd)
      (fun vm₁ hW₁ => ⟨by show cells + R'.cells ≤ R.cells; omega, by show slots + R'.slots ≤ R.slots; omega, rfl, e_Pc_ok N (U := T.setVm vm₁) hT hW₁⟩)
    dsimp only [Pt.U, Pt.locs, Pt.cells, Pt.slots] at X' e1 e2 h1 h2 h3 stp
    subst h1; subst h2; subst h3
    exact ⟨v, (T.setVm vm₁).calling g' mk (Value.ref (E.1 b) :: av.map (e_v E)).toArray, t, U', L2, hT, X', hL, e1, e2, hq, stp⟩
  refine e_call N hrun (fun E' H1 locs1 N1 hx => ?_)
  have := hx.same
  subst this
  have k := K p e s m args below meth c H1 locs1 (cells + R'.cells) (slots + R'.slots) E0 h0 E' ls C hin N1 ext L (by omega) (by omega)
  rw [List.map_append] at k
  have e9 : (r1.map (e_v E')).toList = r1.toList.map (e_v E') := by cases r1 <;> rfl
  rw [e9]
  exact k
end E11
