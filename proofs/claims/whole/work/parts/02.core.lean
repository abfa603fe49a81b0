/-! THE ABSTRACT HEAP: places 0, 1, .. stand for cells; a shape (how many places, each one's kind and length), what the cells hold (ints; references by places) -/
abbrev e_M : Type := MethodName × ByteArray × Nat × Option FieldType
abbrev e_S : Type := Nat × (Nat → Nat × Nat)
abbrev e_G : Type := (Nat → Nat → Int32) × (Nat → Nat → Option Nat)
abbrev e_H : Type := e_S × e_G
abbrev e_E : Type := (Nat → Nat) × (Nat → ClassId)
def e_big : List Cond := lw_tbl.filter goodWord
def e_cls : List vw_C := [(RX0, TX0, 0), (RX1, TX1, 0), (RX2, TX2, 0), (RX3, TX3, 0), (RX4, TX4, 0), (RX5, TX5, 8), (RX6, TX6, 3), (RX7, TX7, 12), (RX8, TX8, 0), (RX9, TX9, 5), (RX10, TX10, 12), (RX11, TX11, 35)]
def e_C (ci : Nat) : vw_C := e_cls.getD ci (RX0, TX0, 0)
def e_tyF (ci : Nat) : Nat → FieldType := ([tyX0, tyX1, tyX2, tyX3, tyX4, tyX5, tyX6, tyX7, tyX8, tyX9, tyX10, tyX11] : List (Nat → FieldType)).getD ci tyX0
def e_rf (ci k : Nat) : Bool := match e_tyF ci k with
  | .array _ => true
  | .object _ => true
  | _ => false
/-- kinds of arrays: 0 int, 1 boolean, 2 Text, 3 Person, 4 Sheet; 10 + c: an object of class c -/
def e_ty (kd : Nat) : FieldType := match kd with
  | 0 => .int
  | 1 => .boolean
  | 2 => .object RX9
  | 3 => .object RX3
  | _ => .object RX6
def e_v (E : e_E) : Value → Value := fun v => match v with
  | .ref a => .ref (E.1 a)
  | .retAddr _ => if E.1 3000000 = 0 then .null else .ref (E.1 3000001)
  | v => v
def e_c (E : e_E) (h : e_H) (k : Nat) : va_E :=
  if (h.1.2 k).1 < 2 then .inl (E.2 k, (h.1.2 k).2, .inl (h.2.1 k))
  else if (h.1.2 k).1 < 10 then .inl (E.2 k, (h.1.2 k).2, .inr (.inr (.inr (.inr (fun j => (h.2.2 k j).map E.1)))))
  else .inr ((h.1.2 k).1 - 10, (List.range (e_C ((h.1.2 k).1 - 10)).2.2).map (fun j => if e_rf ((h.1.2 k).1 - 10) j = true then va_rf ((h.2.2 k j).map E.1) else .int (h.2.1 k j)))
def e_ws (E : e_E) (h : e_H) : va_W := (List.range h.1.1).map (fun k => (E.1 k, e_c E h k))
theorem e_ws_at {E : e_E} {h : e_H} {k : Nat} (hk : k < h.1.1) : (e_ws E h)[k]? = some (E.1 k, e_c E h k) := by
  simp [e_ws, hk]
theorem e_ws_len {E : e_E} {h : e_H} : (e_ws E h).length = h.1.1 := by simp [e_ws]
theorem e_ws_inv {E : e_E} {h : e_H} {k : Nat} {q : Nat × va_E} (hk : (e_ws E h)[k]? = some q) : k < h.1.1 ∧ q = (E.1 k, e_c E h k) := by
  have h1 : k < (e_ws E h).length := (List.getElem?_eq_some_iff.mp hk).1
  rw [e_ws_len] at h1
  rw [e_ws_at h1] at hk
  exact ⟨h1, (Option.some.inj hk).symm⟩
/-- a world in which one place holds another thing -/
theorem e_ws_set {E : e_E} {h h' : e_H} {k : Nat} (hk : k < h.1.1) (hn : h'.1.1 = h.1.1) {c : va_E} (hc : e_c E h' k = c) (ho : ∀ j, j ≠ k → e_c E h' j = e_c E h j) : (e_ws E h).set k (E.1 k, c) = e_ws E h' := by
  apply List.ext_getElem?
  intro j
  by_cases hj : j = k
  · subst hj
    rw [List.getElem?_set_self (by rw [e_ws_len]; exact hk), e_ws_at (by rw [hn]; exact hk), hc]
  · rw [List.getElem?_set_ne (Ne.symm hj)]
    by_cases h1 : j < h.1.1
    · rw [e_ws_at h1, e_ws_at (by rw [hn]; exact h1), ho j hj]
    · rw [List.getElem?_eq_none (by rw [e_ws_len]; omega), List.getElem?_eq_none (by rw [e_ws_len, hn]; omega)]
def e_P (D : va_G) (E : e_E) (h : e_H) (H : Heap) : Prop := va_P D e_cls (e_ws E h) H
/-- String constants: their owners, entries, texts -/
def e_str : List (String × Nat × String) := [("LeanedOut", 73, "leans 5 - across ; holds 60 ; minds beside ;"), ("LeanedOut$Reader", 107, "lean"), ("LeanedOut$Reader", 113, "across"), ("LeanedOut$Reader", 115, "beside"), ("LeanedOut$Reader", 117, "day"), ("LeanedOut$Reader", 119, "lookers"), ("LeanedOut$Reader", 121, "more"), ("LeanedOut$Reader", 123, "leans"), ("LeanedOut$Reader", 125, "holds"), ("LeanedOut$Reader", 127, "minds"), ("LeanedOut$Reader", 129, "and"), ("LeanedOut$Reader", 131, "or"), ("LeanedOut$Reader", 133, "not")]
def e_byt : List (List Int32) := [[108, 101, 97, 110, 115, 32, 53, 32, 45, 32, 97, 99, 114, 111, 115, 115, 32, 59, 32, 104, 111, 108, 100, 115, 32, 54, 48, 32, 59, 32, 109, 105, 110, 100, 115, 32, 98, 101, 115, 105, 100, 101, 32, 59], [108, 101, 97, 110], [97, 99, 114, 111, 115, 115], [98, 101, 115, 105, 100, 101], [100, 97, 121], [108, 111, 111, 107, 101, 114, 115], [109, 111, 114, 101], [108, 101, 97, 110, 115], [104, 111, 108, 100, 115], [109, 105, 110, 100, 115], [97, 110, 100], [111, 114], [110, 111, 116]]
def e_nS : Nat := 13
def e_len : List Nat := [44, 4, 6, 6, 3, 7, 4, 5, 5, 5, 3, 2, 3]
def e_Str (E : e_E) (A : Nat → Prop) (s : State) (H : Heap) : Prop :=
  vk_S e_nS e_len e_byt (fun i => E.1 (1000000 + i)) (fun i => E.1 (2000000 + i)) A s H ∧ (∀ (i : Nat) (q : String × Nat × String), e_str[i]? = some q → vk_R q.1 q.2.1 q.2.2 (E.1 (1000000 + i)) s) ∧ va_Z "java/lang/String" "COMPACT_STRINGS" "Z" (.int 1) A s H ∧ va_Z "jdk/internal/util/Preconditions" "SIOOBE_FORMATTER" "Ljava/util/function/BiFunction;" (e_v E (.retAddr 0)) A s H
def e_cast : List (String × String) := [("LeanedOut$Child", "LeanedOut$Lover"), ("LeanedOut$Duster", "LeanedOut$Tenant"), ("LeanedOut$Lover", "LeanedOut$Person"), ("LeanedOut$Tenant", "LeanedOut$Person"), ("LeanedOut$Child", "LeanedOut$Person"), ("LeanedOut$Duster", "LeanedOut$Person"), ("LeanedOut$Plaster", "LeanedOut$Person")]
def e_ncast : List (String × String) := [("LeanedOut$Person", "LeanedOut$Lover"), ("LeanedOut$Tenant", "LeanedOut$Lover"), ("LeanedOut$Duster", "LeanedOut$Lover"), ("LeanedOut$Plaster", "LeanedOut$Lover"), ("LeanedOut$Person", "LeanedOut$Tenant"), ("LeanedOut$Lover", "LeanedOut$Tenant"), ("LeanedOut$Child", "LeanedOut$Tenant"), ("LeanedOut$Plaster", "LeanedOut$Tenant"), ("LeanedOut$Person", "LeanedOut$Child"), ("LeanedOut$Lover", "LeanedOut$Child"), ("LeanedOut$Tenant", "LeanedOut$Child"), ("LeanedOut$Duster", "LeanedOut$Child"), ("LeanedOut$Plaster", "LeanedOut$Child"), ("LeanedOut$Person", "LeanedOut$Duster"), ("LeanedOut$Lover", "LeanedOut$Duster"), ("LeanedOut$Tenant", "LeanedOut$Duster"), ("LeanedOut$Child", "LeanedOut$Duster"), ("LeanedOut$Plaster", "LeanedOut$Duster"), ("LeanedOut$Person", "LeanedOut$Plaster"), ("LeanedOut$Lover", "LeanedOut$Plaster"), ("LeanedOut$Tenant", "LeanedOut$Plaster"), ("LeanedOut$Child", "LeanedOut$Plaster"), ("LeanedOut$Duster", "LeanedOut$Plaster")]
def e_decl : List MethodName := [⟨RX3, "leaning", "(IZII)I"⟩, ⟨RX3, "holding", "(II)I"⟩]
def e_F (s : State) : Prop := (∀ q ∈ e_cast, va_Nw (.castable q.1 q.2) s) ∧ (∀ q ∈ e_ncast, va_Nc q.1 q.2 s) ∧ (∀ x ∈ e_decl, va_Nw (.declares x) s) ∧ (∀ C ∈ ([RX9, RX3, RX6] : List String), va_AO C s)
/-- what is held is a place -/
def e_wf (h : e_H) : Prop := ∀ k j b, h.2.2 k j = some b → b < h.1.1
def e_K (D : va_G) (E : e_E) (h : e_H) (s : State) : Prop := va_K D e_cls [] s ∧ (∀ k, k < h.1.1 → (h.1.2 k).1 < 10 → ArrOfT s (E.2 k) (e_ty (h.1.2 k).1) ∧ va_RA s (E.2 k) (e_ty (h.1.2 k).1)) ∧ e_F s ∧ e_wf h
def e_ext (E0 : e_E) (n0 : Nat) (E : e_E) (n : Nat) : Prop := n0 ≤ n ∧ n ≤ 1000000 ∧ ∀ k, ¬ (n0 ≤ k ∧ k < n) → E.1 k = E0.1 k ∧ E.2 k = E0.2 k
def e_A (E : e_E) (h : e_H) (sz : Nat) : Nat → Prop := va_A (e_ws E h) sz
/-- what holds at a point of a method -/
def e_Now (D : va_G) (A : Nat → Prop) (E : e_E) (h : e_H) (s : State) (H : Heap) (locs : List Loc) : Prop :=
  e_P D E h H ∧ va_D A (e_ws E h) ∧ va_S A s.heap H locs ∧ e_K D E h s ∧ e_Str E A s s.heap ∧ h.1.1 ≤ 1000000 ∧ ∀ q, s.heap.size ≤ q → A q
/-- a method's end -/
def e_Q (D : va_G) (E0 : e_E) (h0 : e_H) (r : Option Value) (h' : e_H) : Array Value → State → Outcome → State → Prop := fun _ st oc t =>
  (∃ E' : e_E, oc = .returned (r.map (e_v E')) ∧ e_P D E' h' t.heap ∧ va_D (e_A E0 h0 st.heap.size) (e_ws E' h') ∧ e_K D E' h' t ∧ e_ext E0 h0.1.1 E' h'.1.1) ∧ va_F (e_A E0 h0 st.heap.size) st t
def e_lc (E : e_E) (lc : List (Nat × Value)) : List (Nat × Value) := lc.map (fun q => (q.1, e_v E q.2))
def e_Cx (l : Launch) (M : e_M) (p : Program) (s : State) (m : MethodId) (args : Array Value) (meth : Method) (c : Code) : Prop :=
  p.tables.exec = Jvm.exec ∧ c.code = M.2.1 ∧ c.maxLocals = M.2.2.1 ∧ meth.sig.returnType = M.2.2.2 ∧ s.vm.findClass M.1.cls = some m.cls ∧ (∀ w ∈ e_big, w.before args s = true) ∧ meth.locks = false
/-- A POINT OF A METHOD'S BODY: from it the method comes to its end with r, h' -/
def X (l : Launch) (D : va_G) (R : Room) (M : e_M) (bc bs pc : Nat) (lc : List (Nat × Value)) (st : List Value) (h : e_H) (r : Option Value) (h' : e_H) : Prop :=
  ∀ (p : Program) (e : Env) (s : State) (m : MethodId) (args : Array Value) (below : List Frame) (meth : Method) (c : Code) (H : Heap) (locs : List Loc) (cells slots : Nat) (E0 : e_E) (h0 : e_H) (E : e_E) (ls : Array Slot),
    e_Cx l M p s m args meth c → (M.1.name = "<init>" → meth.name = "<init>") → e_Now D (e_A E0 h0 s.heap.size) E h s H locs → e_ext E0 h0.1.1 E h.1.1 → lv_has ls M.2.2.1 (e_lc E lc) → cells + bc ≤ R.cells → slots + bs ≤ R.slots →
    W p l e R s m args below meth c H locs cells slots (MQ below (e_Q D E0 h0 r h') args s R.cells R.slots (e_A E0 h0 s.heap.size)) (F0 m pc ls (st.map (e_v E)))
/-- A METHOD'S CONTRACT -/
def CT (l : Launch) (D : va_G) (R : Room) (M : e_M) (av : List Value) (h : e_H) (r : Option Value) (h' : e_H) : Prop :=
  ∀ (E : e_E) (sz : Nat), Met l M.1 (Cond.code M.1 M.2.1 M.2.2.1 M.2.2.2 :: e_big) R (va_Pc (av.map (e_v E)) (fun U => U.heap.size = sz ∧ e_P D E h U.heap ∧ va_D (fun _ => True) (e_ws E h) ∧ e_K D E h U ∧ e_Str E (e_A E h sz) U U.heap ∧ h.1.1 ≤ 1000000)) (e_Q D E h r h') R.cells R.slots (e_A E h sz)
theorem e_lc_pick {E : e_E} {lc : List (Nat × Value)} (ks : List Nat) : lv_pick (e_lc E lc) ks = e_lc E (lv_pick lc ks) := by
  induction ks with
  | nil => rfl
  | cons k ks ih =>
    unfold lv_pick at ih ⊢
    simp only [List.filterMap_cons, e_lc, List.getElem?_map] at ih ⊢
    cases lc[k]? with
    | none => exact ih
    | some q => simp only [Option.map_some, List.map_cons]; rw [ih]
theorem e_cat {E : e_E} (v : Value) : (e_v E v).category = v.category := by
  cases v with
  | retAddr k =>
    show (if E.1 3000000 = 0 then Value.null else .ref (E.1 3000001)).category = 1
    split <;> rfl
  | _ => rfl
theorem e_lc_fil {E : e_E} {lc : List (Nat × Value)} (i : Nat) (v : Value) : (i, e_v E v) :: (e_lc E lc).filter (fun q => !(q.1 == i) && !(q.1 + 1 == i && q.2.category == 2)) = e_lc E ((i, v) :: lc.filter (fun q => !(q.1 == i) && !(q.1 + 1 == i && q.2.category == 2))) := by
  unfold e_lc
  rw [List.map_cons, List.filter_map]
  congr 2
  apply List.filter_congr
  intro q _
  simp [Function.comp, e_cat]
theorem e_lc_fil2 {E : e_E} {lc : List (Nat × Value)} (i : Nat) (v : Value) : (i, e_v E v) :: (e_lc E lc).filter (fun q => !(q.1 == i) && (!(q.1 == i + 1) && !(q.1 + 1 == i && q.2.category == 2))) = e_lc E ((i, v) :: lc.filter (fun q => !(q.1 == i) && (!(q.1 == i + 1) && !(q.1 + 1 == i && q.2.category == 2)))) := by
  unfold e_lc
  rw [List.map_cons, List.filter_map]
  congr 2
  apply List.filter_congr
  intro q _
  simp [Function.comp, e_cat]
theorem e_lc_at {E : e_E} {lc : List (Nat × Value)} {j i : Nat} {v : Value} (h : lc[j]? = some (i, v)) : (e_lc E lc)[j]? = some (i, e_v E v) := by
  unfold e_lc
  rw [List.getElem?_map, h]
  rfl
theorem e_cats {E : e_E} (st : List Value) : ((st.map (e_v E)).map fun v => v.category).sum = (st.map fun v => v.category).sum := by
  congr 1
  rw [List.map_map]
  apply List.map_congr_left
  intro q _
  exact e_cat q
