theorem e_F.moved {u U : State} (hvm : u.vm.Alike U.vm) (h : e_F u) : e_F U :=
  ⟨fun q hq => va_tabs rfl (rfl : (u.setVm U.vm).vm = U.vm) (by rw [Cond.castable_setVm hvm]; exact h.1 q hq), fun q hq => (h.2.1 q hq).moved hvm, fun x hx => va_tabs rfl (rfl : (u.setVm U.vm).vm = U.vm) (by rw [Cond.declares_setVm hvm]; exact h.2.2.1 x hx), fun C hC => (h.2.2.2 C hC).moved hvm⟩
theorem e_K.moved {D : va_G} {E : e_E} {h : e_H} {u U : State} (hvm : u.vm.Alike U.vm) (hk : e_K D E h u) : e_K D E h U :=
  ⟨va_K.moved hvm hk.1, fun k h1 h2 => ⟨arrOfT_moved hvm (hk.2.1 k h1 h2).1, (hk.2.1 k h1 h2).2.moved hvm⟩, hk.2.2.1.moved hvm, hk.2.2.2⟩
section E2
variable {l : Launch} {D : va_G} {R : Room} {M : e_M} {bc bs pc : Nat} {lc : List (Nat × Value)} {st : List Value} {h : e_H} {r : Option Value} {h' : e_H}
theorem X.iconst {n : Int} {v : Int32} (hd : decode M.2.1 pc = .ok (.iconst n, 1)) (hv : Int32.ofInt n = v) (K : X l D R M bc bs (pc + 1) lc (.int v :: st) h r h') : X l D R M bc bs pc lc st h r h' := by
  intro p e s m args below meth c H locs cells slots E0 h0 E ls C hin N ext L bC bS
  exact lv_iconst C.1 C.2.1 hd hv (K p e s m args below meth c H locs cells slots E0 h0 E ls C hin N ext L bC bS)
theorem X.bipush {n : Int} {v : Int32} (hd : decode M.2.1 pc = .ok (.bipush n, 2)) (hv : (Int8.ofInt n).toInt32 = v) (K : X l D R M bc bs (pc + 2) lc (.int v :: st) h r h') : X l D R M bc bs pc lc st h r h' := by
  intro p e s m args below meth c H locs cells slots E0 h0 E ls C hin N ext L bC bS
  exact lv_bipush C.1 C.2.1 hd hv (K p e s m args below meth c H locs cells slots E0 h0 E ls C hin N ext L bC bS)
theorem X.sipush {n : Int} {v : Int32} (hd : decode M.2.1 pc = .ok (.sipush n, 3)) (hv : (Int16.ofInt n).toInt32 = v) (K : X l D R M bc bs (pc + 3) lc (.int v :: st) h r h') : X l D R M bc bs pc lc st h r h' := by
  intro p e s m args below meth c H locs cells slots E0 h0 E ls C hin N ext L bC bS
  exact lv_sipush C.1 C.2.1 hd hv (K p e s m args below meth c H locs cells slots E0 h0 E ls C hin N ext L bC bS)
theorem X.lconst {n : Fin 2} {v : Int64} (hd : decode M.2.1 pc = .ok (.lconst n, 1)) (hv : Int64.ofNat (n : Nat) = v) (K : X l D R M bc bs (pc + 1) lc (.long v :: st) h r h') : X l D R M bc bs pc lc st h r h' := by
  intro p e s m args below meth c H locs cells slots E0 h0 E ls C hin N ext L bC bS
  exact lv_lconst C.1 C.2.1 hd hv (K p e s m args below meth c H locs cells slots E0 h0 E ls C hin N ext L bC bS)
theorem X.iload_n {k : Fin 4} {i j : Nat} {x : Int32} (hd : decode M.2.1 pc = .ok (.iload_n k, 1)) (hi : (k : Nat) = i) (hl : lc[j]? = some (i, .int x)) (K : X l D R M bc bs (pc + 1) lc (.int x :: st) h r h') : X l D R M bc bs pc lc st h r h' := by
  intro p e s m args below meth c H locs cells slots E0 h0 E ls C hin N ext L bC bS
  exact lv_iload_n C.1 C.2.1 hd hi (lv_at L j (e_lc_at hl)) (K p e s m args below meth c H locs cells slots E0 h0 E ls C hin N ext L bC bS)
theorem X.iload {i j : Nat} {x : Int32} (hd : decode M.2.1 pc = .ok (.iload i, 2)) (hl : lc[j]? = some (i, .int x)) (K : X l D R M bc bs (pc + 2) lc (.int x :: st) h r h') : X l D R M bc bs pc lc st h r h' := by
  intro p e s m args below meth c H locs cells slots E0 h0 E ls C hin N ext L bC bS
  exact lv_iload C.1 C.2.1 hd (lv_at L j (e_lc_at hl)) (K p e s m args below meth c H locs cells slots E0 h0 E ls C hin N ext L bC bS)
theorem X.istore_n {k : Fin 4} {i : Nat} {x : Int32} {lc' : List (Nat × Value)} (hd : decode M.2.1 pc = .ok (.istore_n k, 1)) (hi : (k : Nat) = i) (hn : i < M.2.2.1) (hl : (i, Value.int x) :: lc.filter (fun q => !(q.1 == i) && !(q.1 + 1 == i && q.2.category == 2)) = lc') (K : X l D R M bc bs (pc + 1) lc' st h r h') : X l D R M bc bs pc lc (.int x :: st) h r h' := by
  intro p e s m args below meth c H locs cells slots E0 h0 E ls C hin N ext L bC bS
  exact lv_istore_n C.1 C.2.1 hd hi L hn ((e_lc_fil i (Value.int x)).trans (by rw [hl])) (fun ls' L' => K p e s m args below meth c H locs cells slots E0 h0 E ls' C hin N ext L' bC bS)
theorem X.istore {i : Nat} {x : Int32} {lc' : List (Nat × Value)} (hd : decode M.2.1 pc = .ok (.istore i, 2)) (hn : i < M.2.2.1) (hl : (i, Value.int x) :: lc.filter (fun q => !(q.1 == i) && !(q.1 + 1 == i && q.2.category == 2)) = lc') (K : X l D R M bc bs (pc + 2) lc' st h r h') : X l D R M bc bs pc lc (.int x :: st) h r h' := by
  intro p e s m args below meth c H locs cells slots E0 h0 E ls C hin N ext L bC bS
  exact lv_istore C.1 C.2.1 hd L hn ((e_lc_fil i (Value.int x)).trans (by rw [hl])) (fun ls' L' => K p e s m args below meth c H locs cells slots E0 h0 E ls' C hin N ext L' bC bS)
theorem X.aload_n {k : Fin 4} {i j : Nat} {x : Nat} (hd : decode M.2.1 pc = .ok (.aload_n k, 1)) (hi : (k : Nat) = i) (hl : lc[j]? = some (i, .ref x)) (K : X l D R M bc bs (pc + 1) lc (.ref x :: st) h r h') : X l D R M bc bs pc lc st h r h' := by
  intro p e s m args below meth c H locs cells slots E0 h0 E ls C hin N ext L bC bS
  exact lv_aload_n C.1 C.2.1 hd hi (lv_at L j (e_lc_at hl)) (K p e s m args below meth c H locs cells slots E0 h0 E ls C hin N ext L bC bS)
theorem X.aload {i j : Nat} {x : Nat} (hd : decode M.2.1 pc = .ok (.aload i, 2)) (hl : lc[j]? = some (i, .ref x)) (K : X l D R M bc bs (pc + 2) lc (.ref x :: st) h r h') : X l D R M bc bs pc lc st h r h' := by
  intro p e s m args below meth c H locs cells slots E0 h0 E ls C hin N ext L bC bS
  exact lv_aload C.1 C.2.1 hd (lv_at L j (e_lc_at hl)) (K p e s m args below meth c H locs cells slots E0 h0 E ls C hin N ext L bC bS)
theorem X.astore_n {k : Fin 4} {i : Nat} {x : Nat} {lc' : List (Nat × Value)} (hd : decode M.2.1 pc = .ok (.astore_n k, 1)) (hi : (k : Nat) = i) (hn : i < M.2.2.1) (hl : (i, Value.ref x) :: lc.filter (fun q => !(q.1 == i) && !(q.1 + 1 == i && q.2.category == 2)) = lc') (K : X l D R M bc bs (pc + 1) lc' st h r h') : X l D R M bc bs pc lc (.ref x :: st) h r h' := by
  intro p e s m args below meth c H locs cells slots E0 h0 E ls C hin N ext L bC bS
  exact lv_astore_n C.1 C.2.1 hd hi L hn ((e_lc_fil i (Value.ref x)).trans (by rw [hl])) (fun ls' L' => K p e s m args below meth c H locs cells slots E0 h0 E ls' C hin N ext L' bC bS)
theorem X.astore {i : Nat} {x : Nat} {lc' : List (Nat × Value)} (hd : decode M.2.1 pc = .ok (.astore i, 2)) (hn : i < M.2.2.1) (hl : (i, Value.ref x) :: lc.filter (fun q => !(q.1 == i) && !(q.1 + 1 == i && q.2.category == 2)) = lc') (K : X l D R M bc bs (pc + 2) lc' st h r h') : X l D R M bc bs pc lc (.ref x :: st) h r h' := by
  intro p e s m args below meth c H locs cells slots E0 h0 E ls C hin N ext L bC bS
  exact lv_astore C.1 C.2.1 hd L hn ((e_lc_fil i (Value.ref x)).trans (by rw [hl])) (fun ls' L' => K p e s m args below meth c H locs cells slots E0 h0 E ls' C hin N ext L' bC bS)
theorem X.lload_n {k : Fin 4} {i j : Nat} {x : Int64} (hd : decode M.2.1 pc = .ok (.lload_n k, 1)) (hi : (k : Nat) = i) (hl : lc[j]? = some (i, .long x)) (K : X l D R M bc bs (pc + 1) lc (.long x :: st) h r h') : X l D R M bc bs pc lc st h r h' := by
  intro p e s m args below meth c H locs cells slots E0 h0 E ls C hin N ext L bC bS
  exact lv_lload_n C.1 C.2.1 hd hi (lv_at L j (e_lc_at hl)) (K p e s m args below meth c H locs cells slots E0 h0 E ls C hin N ext L bC bS)
theorem X.lload {i j : Nat} {x : Int64} (hd : decode M.2.1 pc = .ok (.lload i, 2)) (hl : lc[j]? = some (i, .long x)) (K : X l D R M bc bs (pc + 2) lc (.long x :: st) h r h') : X l D R M bc bs pc lc st h r h' := by
  intro p e s m args below meth c H locs cells slots E0 h0 E ls C hin N ext L bC bS
  exact lv_lload C.1 C.2.1 hd (lv_at L j (e_lc_at hl)) (K p e s m args below meth c H locs cells slots E0 h0 E ls C hin N ext L bC bS)
theorem X.lstore_n {k : Fin 4} {i : Nat} {x : Int64} {lc' : List (Nat × Value)} (hd : decode M.2.1 pc = .ok (.lstore_n k, 1)) (hi : (k : Nat) = i) (hn : i + 1 < M.2.2.1) (hl : (i, Value.long x) :: lc.filter (fun q => !(q.1 == i) && (!(q.1 == i + 1) && !(q.1 + 1 == i && q.2.category == 2))) = lc') (K : X l D R M bc bs (pc + 1) lc' st h r h') : X l D R M bc bs pc lc (.long x :: st) h r h' := by
  intro p e s m args below meth c H locs cells slots E0 h0 E ls C hin N ext L bC bS
  exact lv_lstore_n C.1 C.2.1 hd hi L hn ((e_lc_fil2 i (Value.long x)).trans (by rw [hl])) (fun ls' L' => K p e s m args below meth c H locs cells slots E0 h0 E ls' C hin N ext L' bC bS)
theorem X.lstore {i : Nat} {x : Int64} {lc' : List (Nat × Value)} (hd : decode M.2.1 pc = .ok (.lstore i, 2)) (hn : i + 1 < M.2.2.1) (hl : (i, Value.long x) :: lc.filter (fun q => !(q.1 == i) && (!(q.1 == i + 1) && !(q.1 + 1 == i && q.2.category == 2))) = lc') (K : X l D R M bc bs (pc + 2) lc' st h r h') : X l D R M bc bs pc lc (.long x :: st) h r h' := by
  intro p e s m args below meth c H locs cells slots E0 h0 E ls C hin N ext L bC bS
  exact lv_lstore C.1 C.2.1 hd L hn ((e_lc_fil2 i (Value.long x)).trans (by rw [hl])) (fun ls' L' => K p e s m args below meth c H locs cells slots E0 h0 E ls' C hin N ext L' bC bS)
theorem X.iinc {i j : Nat} {n : Int} {x v : Int32} {lc' : List (Nat × Value)} (hd : decode M.2.1 pc = .ok (.iinc i n, 3)) (hk : lc[j]? = some (i, .int x)) (hv : x + Int32.ofInt n = v) (hn : i < M.2.2.1) (hl : (i, Value.int v) :: lc.filter (fun q => !(q.1 == i) && !(q.1 + 1 == i && q.2.category == 2)) = lc') (K : X l D R M bc bs (pc + 3) lc' st h r h') : X l D R M bc bs pc lc st h r h' := by
  intro p e s m args below meth c H locs cells slots E0 h0 E ls C hin N ext L bC bS
  exact lv_iinc C.1 C.2.1 hd L (e_lc_at hk) hv hn ((e_lc_fil i (Value.int v)).trans (by rw [hl])) (fun ls' L' => K p e s m args below meth c H locs cells slots E0 h0 E ls' C hin N ext L' bC bS)
theorem X.dup {v : Value} (hd : decode M.2.1 pc = .ok (.dup, 1)) (hc : v.category = 1) (K : X l D R M bc bs (pc + 1) lc (v :: v :: st) h r h') : X l D R M bc bs pc lc (v :: st) h r h' := by
  intro p e s m args below meth c H locs cells slots E0 h0 E ls C hin N ext L bC bS
  exact lv_dup C.1 C.2.1 hd ((e_cat v).trans hc) (K p e s m args below meth c H locs cells slots E0 h0 E ls C hin N ext L bC bS)
theorem X.pop {v : Value} (hd : decode M.2.1 pc = .ok (.pop, 1)) (hc : v.category = 1) (K : X l D R M bc bs (pc + 1) lc st h r h') : X l D R M bc bs pc lc (v :: st) h r h' := by
  intro p e s m args below meth c H locs cells slots E0 h0 E ls C hin N ext L bC bS
  exact lv_pop C.1 C.2.1 hd ((e_cat v).trans hc) (K p e s m args below meth c H locs cells slots E0 h0 E ls C hin N ext L bC bS)
theorem X.iadd {x y : Int32} (hd : decode M.2.1 pc = .ok (.iadd, 1)) (K : X l D R M bc bs (pc + 1) lc (.int (x + y) :: st) h r h') : X l D R M bc bs pc lc (.int y :: .int x :: st) h r h' := by
  intro p e s m args below meth c H locs cells slots E0 h0 E ls C hin N ext L bC bS
  exact lv_iadd C.1 C.2.1 hd  (K p e s m args below meth c H locs cells slots E0 h0 E ls C hin N ext L bC bS)
theorem X.isub {x y : Int32} (hd : decode M.2.1 pc = .ok (.isub, 1)) (K : X l D R M bc bs (pc + 1) lc (.int (x - y) :: st) h r h') : X l D R M bc bs pc lc (.int y :: .int x :: st) h r h' := by
  intro p e s m args below meth c H locs cells slots E0 h0 E ls C hin N ext L bC bS
  exact lv_isub C.1 C.2.1 hd  (K p e s m args below meth c H locs cells slots E0 h0 E ls C hin N ext L bC bS)
theorem X.imul {x y : Int32} (hd : decode M.2.1 pc = .ok (.imul, 1)) (K : X l D R M bc bs (pc + 1) lc (.int (x * y) :: st) h r h') : X l D R M bc bs pc lc (.int y :: .int x :: st) h r h' := by
  intro p e s m args below meth c H locs cells slots E0 h0 E ls C hin N ext L bC bS
  exact lv_imul C.1 C.2.1 hd  (K p e s m args below meth c H locs cells slots E0 h0 E ls C hin N ext L bC bS)
theorem X.ishl {x y : Int32} (hd : decode M.2.1 pc = .ok (.ishl, 1)) (K : X l D R M bc bs (pc + 1) lc (.int (x <<< (y &&& 31)) :: st) h r h') : X l D R M bc bs pc lc (.int y :: .int x :: st) h r h' := by
  intro p e s m args below meth c H locs cells slots E0 h0 E ls C hin N ext L bC bS
  exact lv_ishl C.1 C.2.1 hd  (K p e s m args below meth c H locs cells slots E0 h0 E ls C hin N ext L bC bS)
theorem X.ishr {x y : Int32} (hd : decode M.2.1 pc = .ok (.ishr, 1)) (K : X l D R M bc bs (pc + 1) lc (.int (x >>> (y &&& 31)) :: st) h r h') : X l D R M bc bs pc lc (.int y :: .int x :: st) h r h' := by
  intro p e s m args below meth c H locs cells slots E0 h0 E ls C hin N ext L bC bS
  exact lv_ishr C.1 C.2.1 hd  (K p e s m args below meth c H locs cells slots E0 h0 E ls C hin N ext L bC bS)
theorem X.iushr {x y : Int32} (hd : decode M.2.1 pc = .ok (.iushr, 1)) (K : X l D R M bc bs (pc + 1) lc (.int ((x.toUInt32 >>> (y.toUInt32 &&& Int32.toUInt32 31)).toInt32) :: st) h r h') : X l D R M bc bs pc lc (.int y :: .int x :: st) h r h' := by
  intro p e s m args below meth c H locs cells slots E0 h0 E ls C hin N ext L bC bS
  exact lv_iushr C.1 C.2.1 hd rfl (K p e s m args below meth c H locs cells slots E0 h0 E ls C hin N ext L bC bS)
theorem X.iand {x y : Int32} (hd : decode M.2.1 pc = .ok (.iand, 1)) (K : X l D R M bc bs (pc + 1) lc (.int (x &&& y) :: st) h r h') : X l D R M bc bs pc lc (.int y :: .int x :: st) h r h' := by
  intro p e s m args below meth c H locs cells slots E0 h0 E ls C hin N ext L bC bS
  exact lv_iand C.1 C.2.1 hd  (K p e s m args below meth c H locs cells slots E0 h0 E ls C hin N ext L bC bS)
theorem X.ior {x y : Int32} (hd : decode M.2.1 pc = .ok (.ior, 1)) (K : X l D R M bc bs (pc + 1) lc (.int (x ||| y) :: st) h r h') : X l D R M bc bs pc lc (.int y :: .int x :: st) h r h' := by
  intro p e s m args below meth c H locs cells slots E0 h0 E ls C hin N ext L bC bS
  exact lv_ior C.1 C.2.1 hd  (K p e s m args below meth c H locs cells slots E0 h0 E ls C hin N ext L bC bS)
theorem X.idiv {x y : Int32} (hd : decode M.2.1 pc = .ok (.idiv, 1)) (hne : ¬ y = 0) (K : X l D R M bc bs (pc + 1) lc (.int (x / y) :: st) h r h') : X l D R M bc bs pc lc (.int y :: .int x :: st) h r h' := by
  intro p e s m args below meth c H locs cells slots E0 h0 E ls C hin N ext L bC bS
  exact lv_idiv C.1 C.2.1 hd hne (K p e s m args below meth c H locs cells slots E0 h0 E ls C hin N ext L bC bS)
theorem X.irem {x y : Int32} (hd : decode M.2.1 pc = .ok (.irem, 1)) (hne : ¬ y = 0) (K : X l D R M bc bs (pc + 1) lc (.int (x - x / y * y) :: st) h r h') : X l D R M bc bs pc lc (.int y :: .int x :: st) h r h' := by
  intro p e s m args below meth c H locs cells slots E0 h0 E ls C hin N ext L bC bS
  exact lv_irem C.1 C.2.1 hd hne (K p e s m args below meth c H locs cells slots E0 h0 E ls C hin N ext L bC bS)
theorem X.ineg {x : Int32} (hd : decode M.2.1 pc = .ok (.ineg, 1)) (K : X l D R M bc bs (pc + 1) lc (.int (-x) :: st) h r h') : X l D R M bc bs pc lc (.int x :: st) h r h' := by
  intro p e s m args below meth c H locs cells slots E0 h0 E ls C hin N ext L bC bS
  exact lv_ineg C.1 C.2.1 hd  (K p e s m args below meth c H locs cells slots E0 h0 E ls C hin N ext L bC bS)
theorem X.ladd {x y : Int64} (hd : decode M.2.1 pc = .ok (.ladd, 1)) (K : X l D R M bc bs (pc + 1) lc (.long (x + y) :: st) h r h') : X l D R M bc bs pc lc (.long y :: .long x :: st) h r h' := by
  intro p e s m args below meth c H locs cells slots E0 h0 E ls C hin N ext L bC bS
  exact lv_ladd C.1 C.2.1 hd  (K p e s m args below meth c H locs cells slots E0 h0 E ls C hin N ext L bC bS)
theorem X.lmul {x y : Int64} (hd : decode M.2.1 pc = .ok (.lmul, 1)) (K : X l D R M bc bs (pc + 1) lc (.long (x * y) :: st) h r h') : X l D R M bc bs pc lc (.long y :: .long x :: st) h r h' := by
  intro p e s m args below meth c H locs cells slots E0 h0 E ls C hin N ext L bC bS
  exact lv_lmul C.1 C.2.1 hd  (K p e s m args below meth c H locs cells slots E0 h0 E ls C hin N ext L bC bS)
theorem X.ldiv {x y : Int64} (hd : decode M.2.1 pc = .ok (.ldiv, 1)) (hne : ¬ y = 0) (K : X l D R M bc bs (pc + 1) lc (.long (x / y) :: st) h r h') : X l D R M bc bs pc lc (.long y :: .long x :: st) h r h' := by
  intro p e s m args below meth c H locs cells slots E0 h0 E ls C hin N ext L bC bS
  exact lv_ldiv C.1 C.2.1 hd hne (K p e s m args below meth c H locs cells slots E0 h0 E ls C hin N ext L bC bS)
theorem X.lrem {x y : Int64} (hd : decode M.2.1 pc = .ok (.lrem, 1)) (hne : ¬ y = 0) (K : X l D R M bc bs (pc + 1) lc (.long (x - x / y * y) :: st) h r h') : X l D R M bc bs pc lc (.long y :: .long x :: st) h r h' := by
  intro p e s m args below meth c H locs cells slots E0 h0 E ls C hin N ext L bC bS
  exact lv_lrem C.1 C.2.1 hd hne (K p e s m args below meth c H locs cells slots E0 h0 E ls C hin N ext L bC bS)
theorem X.i2l {x : Int32} (hd : decode M.2.1 pc = .ok (.i2l, 1)) (K : X l D R M bc bs (pc + 1) lc (.long x.toInt64 :: st) h r h') : X l D R M bc bs pc lc (.int x :: st) h r h' := by
  intro p e s m args below meth c H locs cells slots E0 h0 E ls C hin N ext L bC bS
  exact lv_i2l C.1 C.2.1 hd rfl (K p e s m args below meth c H locs cells slots E0 h0 E ls C hin N ext L bC bS)
theorem X.l2i {x : Int64} (hd : decode M.2.1 pc = .ok (.l2i, 1)) (K : X l D R M bc bs (pc + 1) lc (.int x.toInt32 :: st) h r h') : X l D R M bc bs pc lc (.long x :: st) h r h' := by
  intro p e s m args below meth c H locs cells slots E0 h0 E ls C hin N ext L bC bS
  exact lv_l2i C.1 C.2.1 hd rfl (K p e s m args below meth c H locs cells slots E0 h0 E ls C hin N ext L bC bS)
theorem X.i2b {x : Int32} (hd : decode M.2.1 pc = .ok (.i2b, 1)) (K : X l D R M bc bs (pc + 1) lc (.int x.toInt8.toInt32 :: st) h r h') : X l D R M bc bs pc lc (.int x :: st) h r h' := by
  intro p e s m args below meth c H locs cells slots E0 h0 E ls C hin N ext L bC bS
  exact lv_i2b C.1 C.2.1 hd rfl (K p e s m args below meth c H locs cells slots E0 h0 E ls C hin N ext L bC bS)
theorem X.i2s {x : Int32} (hd : decode M.2.1 pc = .ok (.i2s, 1)) (K : X l D R M bc bs (pc + 1) lc (.int x.toInt16.toInt32 :: st) h r h') : X l D R M bc bs pc lc (.int x :: st) h r h' := by
  intro p e s m args below meth c H locs cells slots E0 h0 E ls C hin N ext L bC bS
  exact lv_i2s C.1 C.2.1 hd rfl (K p e s m args below meth c H locs cells slots E0 h0 E ls C hin N ext L bC bS)
theorem X.lcmp {x y : Int64} (hd : decode M.2.1 pc = .ok (.lcmp, 1)) (K : X l D R M bc bs (pc + 1) lc (.int (lg_cmp x y) :: st) h r h') : X l D R M bc bs pc lc (.long y :: .long x :: st) h r h' := by
  intro p e s m args below meth c H locs cells slots E0 h0 E ls C hin N ext L bC bS
  exact W.lcmp C.1 C.2.1 hd  (K p e s m args below meth c H locs cells slots E0 h0 E ls C hin N ext L bC bS)
theorem X.icmp_eq {x y : Int32} {off : Int} {tgt : Nat} (hd : decode M.2.1 pc = .ok (.if_icmp .eq off, 3)) (ht : (pc : Int) + off = (tgt : Int)) (kt : x = y → X l D R M bc bs tgt lc st h r h') (kf : ¬ x = y → X l D R M bc bs (pc + 3) lc st h r h') : X l D R M bc bs pc lc (.int y :: .int x :: st) h r h' := by
  intro p e s m args below meth c H locs cells slots E0 h0 E ls C hin N ext L bC bS
  exact lv_icmp_eq C.1 C.2.1 hd ht (fun z => kt z p e s m args below meth c H locs cells slots E0 h0 E ls C hin N ext L bC bS) (fun z => kf z p e s m args below meth c H locs cells slots E0 h0 E ls C hin N ext L bC bS)
theorem X.icmp_ne {x y : Int32} {off : Int} {tgt : Nat} (hd : decode M.2.1 pc = .ok (.if_icmp .ne off, 3)) (ht : (pc : Int) + off = (tgt : Int)) (kt : ¬ x = y → X l D R M bc bs tgt lc st h r h') (kf : x = y → X l D R M bc bs (pc + 3) lc st h r h') : X l D R M bc bs pc lc (.int y :: .int x :: st) h r h' := by
  intro p e s m args below meth c H locs cells slots E0 h0 E ls C hin N ext L bC bS
  exact lv_icmp_ne C.1 C.2.1 hd ht (fun z => kt z p e s m args below meth c H locs cells slots E0 h0 E ls C hin N ext L bC bS) (fun z => kf z p e s m args below meth c H locs cells slots E0 h0 E ls C hin N ext L bC bS)
theorem X.icmp_lt {x y : Int32} {off : Int} {tgt : Nat} (hd : decode M.2.1 pc = .ok (.if_icmp .lt off, 3)) (ht : (pc : Int) + off = (tgt : Int)) (kt : x < y → X l D R M bc bs tgt lc st h r h') (kf : ¬ x < y → X l D R M bc bs (pc + 3) lc st h r h') : X l D R M bc bs pc lc (.int y :: .int x :: st) h r h' := by
  intro p e s m args below meth c H locs cells slots E0 h0 E ls C hin N ext L bC bS
  exact lv_icmp_lt C.1 C.2.1 hd ht (fun z => kt z p e s m args below meth c H locs cells slots E0 h0 E ls C hin N ext L bC bS) (fun z => kf z p e s m args below meth c H locs cells slots E0 h0 E ls C hin N ext L bC bS)
theorem X.icmp_ge {x y : Int32} {off : Int} {tgt : Nat} (hd : decode M.2.1 pc = .ok (.if_icmp .ge off, 3)) (ht : (pc : Int) + off = (tgt : Int)) (kt : y ≤ x → X l D R M bc bs tgt lc st h r h') (kf : ¬ y ≤ x → X l D R M bc bs (pc + 3) lc st h r h') : X l D R M bc bs pc lc (.int y :: .int x :: st) h r h' := by
  intro p e s m args below meth c H locs cells slots E0 h0 E ls C hin N ext L bC bS
  exact lv_icmp_ge C.1 C.2.1 hd ht (fun z => kt z p e s m args below meth c H locs cells slots E0 h0 E ls C hin N ext L bC bS) (fun z => kf z p e s m args below meth c H locs cells slots E0 h0 E ls C hin N ext L bC bS)
theorem X.icmp_gt {x y : Int32} {off : Int} {tgt : Nat} (hd : decode M.2.1 pc = .ok (.if_icmp .gt off, 3)) (ht : (pc : Int) + off = (tgt : Int)) (kt : y < x → X l D R M bc bs tgt lc st h r h') (kf : ¬ y < x → X l D R M bc bs (pc + 3) lc st h r h') : X l D R M bc bs pc lc (.int y :: .int x :: st) h r h' := by
  intro p e s m args below meth c H locs cells slots E0 h0 E ls C hin N ext L bC bS
  exact lv_icmp_gt C.1 C.2.1 hd ht (fun z => kt z p e s m args below meth c H locs cells slots E0 h0 E ls C hin N ext L bC bS) (fun z => kf z p e s m args below meth c H locs cells slots E0 h0 E ls C hin N ext L bC bS)
theorem X.icmp_le {x y : Int32} {off : Int} {tgt : Nat} (hd : decode M.2.1 pc = .ok (.if_icmp .le off, 3)) (ht : (pc : Int) + off = (tgt : Int)) (kt : x ≤ y → X l D R M bc bs tgt lc st h r h') (kf : ¬ x ≤ y → X l D R M bc bs (pc + 3) lc st h r h') : X l D R M bc bs pc lc (.int y :: .int x :: st) h r h' := by
  intro p e s m args below meth c H locs cells slots E0 h0 E ls C hin N ext L bC bS
  exact lv_icmp_le C.1 C.2.1 hd ht (fun z => kt z p e s m args below meth c H locs cells slots E0 h0 E ls C hin N ext L bC bS) (fun z => kf z p e s m args below meth c H locs cells slots E0 h0 E ls C hin N ext L bC bS)
theorem X.if_eq {x : Int32} {off : Int} {tgt : Nat} (hd : decode M.2.1 pc = .ok (.ifCond .eq off, 3)) (ht : (pc : Int) + off = (tgt : Int)) (kt : x = 0 → X l D R M bc bs tgt lc st h r h') (kf : ¬ x = 0 → X l D R M bc bs (pc + 3) lc st h r h') : X l D R M bc bs pc lc (.int x :: st) h r h' := by
  intro p e s m args below meth c H locs cells slots E0 h0 E ls C hin N ext L bC bS
  exact lv_if_eq C.1 C.2.1 hd ht (fun z => kt z p e s m args below meth c H locs cells slots E0 h0 E ls C hin N ext L bC bS) (fun z => kf z p e s m args below meth c H locs cells slots E0 h0 E ls C hin N ext L bC bS)
theorem X.if_ne {x : Int32} {off : Int} {tgt : Nat} (hd : decode M.2.1 pc = .ok (.ifCond .ne off, 3)) (ht : (pc : Int) + off = (tgt : Int)) (kt : ¬ x = 0 → X l D R M bc bs tgt lc st h r h') (kf : x = 0 → X l D R M bc bs (pc + 3) lc st h r h') : X l D R M bc bs pc lc (.int x :: st) h r h' := by
  intro p e s m args below meth c H locs cells slots E0 h0 E ls C hin N ext L bC bS
  exact lv_if_ne C.1 C.2.1 hd ht (fun z => kt z p e s m args below meth c H locs cells slots E0 h0 E ls C hin N ext L bC bS) (fun z => kf z p e s m args below meth c H locs cells slots E0 h0 E ls C hin N ext L bC bS)
theorem X.if_lt {x : Int32} {off : Int} {tgt : Nat} (hd : decode M.2.1 pc = .ok (.ifCond .lt off, 3)) (ht : (pc : Int) + off = (tgt : Int)) (kt : x < 0 → X l D R M bc bs tgt lc st h r h') (kf : ¬ x < 0 → X l D R M bc bs (pc + 3) lc st h r h') : X l D R M bc bs pc lc (.int x :: st) h r h' := by
  intro p e s m args below meth c H locs cells slots E0 h0 E ls C hin N ext L bC bS
  exact lv_if_lt C.1 C.2.1 hd ht (fun z => kt z p e s m args below meth c H locs cells slots E0 h0 E ls C hin N ext L bC bS) (fun z => kf z p e s m args below meth c H locs cells slots E0 h0 E ls C hin N ext L bC bS)
theorem X.if_ge {x : Int32} {off : Int} {tgt : Nat} (hd : decode M.2.1 pc = .ok (.ifCond .ge off, 3)) (ht : (pc : Int) + off = (tgt : Int)) (kt : 0 ≤ x → X l D R M bc bs tgt lc st h r h') (kf : ¬ 0 ≤ x → X l D R M bc bs (pc + 3) lc st h r h') : X l D R M bc bs pc lc (.int x :: st) h r h' := by
  intro p e s m args below meth c H locs cells slots E0 h0 E ls C hin N ext L bC bS
  exact lv_if_ge C.1 C.2.1 hd ht (fun z => kt z p e s m args below meth c H locs cells slots E0 h0 E ls C hin N ext L bC bS) (fun z => kf z p e s m args below meth c H locs cells slots E0 h0 E ls C hin N ext L bC bS)
theorem X.if_gt {x : Int32} {off : Int} {tgt : Nat} (hd : decode M.2.1 pc = .ok (.ifCond .gt off, 3)) (ht : (pc : Int) + off = (tgt : Int)) (kt : 0 < x → X l D R M bc bs tgt lc st h r h') (kf : ¬ 0 < x → X l D R M bc bs (pc + 3) lc st h r h') : X l D R M bc bs pc lc (.int x :: st) h r h' := by
  intro p e s m args below meth c H locs cells slots E0 h0 E ls C hin N ext L bC bS
  exact lv_if_gt C.1 C.2.1 hd ht (fun z => kt z p e s m args below meth c H locs cells slots E0 h0 E ls C hin N ext L bC bS) (fun z => kf z p e s m args below meth c H locs cells slots E0 h0 E ls C hin N ext L bC bS)
theorem X.if_le {x : Int32} {off : Int} {tgt : Nat} (hd : decode M.2.1 pc = .ok (.ifCond .le off, 3)) (ht : (pc : Int) + off = (tgt : Int)) (kt : x ≤ 0 → X l D R M bc bs tgt lc st h r h') (kf : ¬ x ≤ 0 → X l D R M bc bs (pc + 3) lc st h r h') : X l D R M bc bs pc lc (.int x :: st) h r h' := by
  intro p e s m args below meth c H locs cells slots E0 h0 E ls C hin N ext L bC bS
  exact lv_if_le C.1 C.2.1 hd ht (fun z => kt z p e s m args below meth c H locs cells slots E0 h0 E ls C hin N ext L bC bS) (fun z => kf z p e s m args below meth c H locs cells slots E0 h0 E ls C hin N ext L bC bS)
theorem X.goto {off : Int} {tgt : Nat} (hd : decode M.2.1 pc = .ok (.goto off, 3)) (ht : (pc : Int) + off = (tgt : Int)) (K : X l D R M bc bs tgt lc st h r h') : X l D R M bc bs pc lc st h r h' := by
  intro p e s m args below meth c H locs cells slots E0 h0 E ls C hin N ext L bC bS
  exact lv_goto C.1 C.2.1 hd ht (K p e s m args below meth c H locs cells slots E0 h0 E ls C hin N ext L bC bS)
theorem X.ifnull {x : Nat} {off : Int} (hd : decode M.2.1 pc = .ok (.ifnull off, 3)) (K : X l D R M bc bs (pc + 3) lc st h r h') : X l D R M bc bs pc lc (.ref x :: st) h r h' := by
  intro p e s m args below meth c H locs cells slots E0 h0 E ls C hin N ext L bC bS
  exact lv_ifnull C.1 C.2.1 hd (K p e s m args below meth c H locs cells slots E0 h0 E ls C hin N ext L bC bS)
theorem X.ifnonnull {x : Nat} {off : Int} {tgt : Nat} (hd : decode M.2.1 pc = .ok (.ifnonnull off, 3)) (ht : (pc : Int) + off = (tgt : Int)) (K : X l D R M bc bs tgt lc st h r h') : X l D R M bc bs pc lc (.ref x :: st) h r h' := by
  intro p e s m args below meth c H locs cells slots E0 h0 E ls C hin N ext L bC bS
  exact lv_ifnonnull C.1 C.2.1 hd ht (K p e s m args below meth c H locs cells slots E0 h0 E ls C hin N ext L bC bS)
theorem X.tableIn {dflt lo hi : Int} {offs : Array Int} {len : Nat} {x : Int32} {off : Int} {tgt : Nat} (hd : decode M.2.1 pc = .ok (.tableswitch dflt lo hi offs, len)) (h1 : ¬ x.toInt < lo) (h2 : ¬ hi < x.toInt) (ho : offs[(x.toInt - lo).toNat]? = some off) (ht : (pc : Int) + off = (tgt : Int)) (K : X l D R M bc bs tgt lc st h r h') : X l D R M bc bs pc lc (.int x :: st) h r h' := by
  intro p e s m args below meth c H locs cells slots E0 h0 E ls C hin N ext L bC bS
  exact lv_tableIn C.1 C.2.1 hd h1 h2 ho ht (K p e s m args below meth c H locs cells slots E0 h0 E ls C hin N ext L bC bS)
theorem X.tableOut {dflt lo hi : Int} {offs : Array Int} {len : Nat} {x : Int32} {tgt : Nat} (hd : decode M.2.1 pc = .ok (.tableswitch dflt lo hi offs, len)) (hh : x.toInt < lo ∨ hi < x.toInt) (ht : (pc : Int) + dflt = (tgt : Int)) (K : X l D R M bc bs tgt lc st h r h') : X l D R M bc bs pc lc (.int x :: st) h r h' := by
  intro p e s m args below meth c H locs cells slots E0 h0 E ls C hin N ext L bC bS
  exact lv_tableOut C.1 C.2.1 hd hh ht (K p e s m args below meth c H locs cells slots E0 h0 E ls C hin N ext L bC bS)
theorem X.ldc {index : Nat} {v : Int32} (hd : decode M.2.1 pc = .ok (.ldc index, 2)) (hw : Cond.constant M.1.cls index v ∈ e_big) (K : X l D R M bc bs (pc + 2) lc (.int v :: st) h r h') : X l D R M bc bs pc lc st h r h' := by
  intro p e s m args below meth c H locs cells slots E0 h0 E ls C hin N ext L bC bS
  exact lv_ldc C.1 C.2.1 C.2.2.2.2.1 (C.2.2.2.2.2.1 _ hw) hd (K p e s m args below meth c H locs cells slots E0 h0 E ls C hin N ext L bC bS)
theorem X.ldcw {index : Nat} {v : Int32} (hd : decode M.2.1 pc = .ok (.ldc_w index, 3)) (hw : Cond.constant M.1.cls index v ∈ e_big) (K : X l D R M bc bs (pc + 3) lc (.int v :: st) h r h') : X l D R M bc bs pc lc st h r h' := by
  intro p e s m args below meth c H locs cells slots E0 h0 E ls C hin N ext L bC bS
  exact lv_ldcw C.1 C.2.1 C.2.2.2.2.1 (C.2.2.2.2.2.1 _ hw) hd (K p e s m args below meth c H locs cells slots E0 h0 E ls C hin N ext L bC bS)
theorem X.ldc2 {index : Nat} {v : Int64} (hd : decode M.2.1 pc = .ok (.ldc2_w index, 3)) (hw : Cond.constantLong M.1.cls index v ∈ e_big) (K : X l D R M bc bs (pc + 3) lc (.long v :: st) h r h') : X l D R M bc bs pc lc st h r h' := by
  intro p e s m args below meth c H locs cells slots E0 h0 E ls C hin N ext L bC bS
  exact lv_ldc2 C.1 C.2.1 C.2.2.2.2.1 (C.2.2.2.2.2.1 _ hw) hd (K p e s m args below meth c H locs cells slots E0 h0 E ls C hin N ext L bC bS)
theorem X.ldcS {index i : Nat} {tx : String} (hd : decode M.2.1 pc = .ok (.ldc index, 2)) (hw : e_str[i]? = some (M.1.cls, index, tx)) (K : X l D R M bc bs (pc + 2) lc (.ref (1000000 + i) :: st) h r h') : X l D R M bc bs pc lc st h r h' := by
  intro p e s m args below meth c H locs cells slots E0 h0 E ls C hin N ext L bC bS
  exact va_ldcS C.1 C.2.1 C.2.2.2.2.1 (N.2.2.2.2.1.2.1 i _ hw) hd (K p e s m args below meth c H locs cells slots E0 h0 E ls C hin N ext L bC bS)
/-- fewer locals known -/
theorem X.sub (ks : List Nat) {lc' : List (Nat × Value)} (hl : lv_pick lc ks = lc') (K : X l D R M bc bs pc lc' st h r h') : X l D R M bc bs pc lc st h r h' := by
  intro p e s m args below meth c H locs cells slots E0 h0 E ls C hin N ext L bC bS
  exact K p e s m args below meth c H locs cells slots E0 h0 E ls C hin N ext (lv_sub L ks (by rw [e_lc_pick, hl])) bC bS
theorem X.iret {v : Int32} {ty : FieldType} (hd : decode M.2.1 pc = .ok (.ireturn, 1)) (hr : M.2.2.2 = some ty) (hn : narrow ty (.int v) = .int v) : X l D R M bc bs pc lc [.int v] h (some (.int v)) h := by
  intro p e s m args below meth c H locs cells slots E0 h0 E ls C hin N ext L bC bS
  exact W.widen (by omega) (by omega) (W.zret C.1 C.2.1 (C.2.2.2.1.trans hr) hn (fun t ht hW => ⟨⟨E, rfl, by rw [ht]; exact N.1, N.2.1, e_K.moved hW.alike N.2.2.2.1, ext⟩, N.2.2.1.F ht⟩) N.2.2.1.2.2 hd C.2.2.2.2.2.2)
theorem X.lret {v : Int64} (hd : decode M.2.1 pc = .ok (.lreturn, 1)) (hr : M.2.2.2 = some .long) : X l D R M bc bs pc lc [.long v] h (some (.long v)) h := by
  intro p e s m args below meth c H locs cells slots E0 h0 E ls C hin N ext L bC bS
  exact W.widen (by omega) (by omega) (W.lret C.1 C.2.1 (C.2.2.2.1.trans hr) (fun t ht hW => ⟨⟨E, rfl, by rw [ht]; exact N.1, N.2.1, e_K.moved hW.alike N.2.2.2.1, ext⟩, N.2.2.1.F ht⟩) N.2.2.1.2.2 hd C.2.2.2.2.2.2)
theorem X.vret (hd : decode M.2.1 pc = .ok (.return_, 1)) (hr : M.2.2.2 = none) : X l D R M bc bs pc lc [] h none h := by
  intro p e s m args below meth c H locs cells slots E0 h0 E ls C hin N ext L bC bS
  exact W.widen (by omega) (by omega) (W.vret C.1 C.2.1 (C.2.2.2.1.trans hr) (fun t ht hW => ⟨⟨E, rfl, by rw [ht]; exact N.1, N.2.1, e_K.moved hW.alike N.2.2.2.1, ext⟩, N.2.2.1.F ht⟩) N.2.2.1.2.2 hd C.2.2.2.2.2.2)
theorem X.aret {a : Nat} {ty : FieldType} (hd : decode M.2.1 pc = .ok (.areturn, 1)) (hr : M.2.2.2 = some ty) (hty : (∃ n, ty = .object n) ∨ ∃ t, ty = .array t) : X l D R M bc bs pc lc [.ref a] h (some (.ref a)) h := by
  intro p e s m args below meth c H locs cells slots E0 h0 E ls C hin N ext L bC bS
  exact W.widen (by omega) (by omega) (W.aret C.1 C.2.1 (C.2.2.2.1.trans hr) hty (Or.inr ⟨_, rfl⟩) (fun t ht hW => ⟨⟨E, rfl, by rw [ht]; exact N.1, N.2.1, e_K.moved hW.alike N.2.2.2.1, ext⟩, N.2.2.1.F ht⟩) N.2.2.1.2.2 hd C.2.2.2.2.2.2)
end E2
