/-! THE CLAIM OUT OF ONE WALK OF THE LAW'S BODY. Your part is whole_start (and what it stands on); all else here is the same for every law, but numbers. -/
def R_law : String := "LeanedOutLaw"
def lw_P (b : Addr) (xs : List Int32) (args : Array Value) (s : State) : Prop := args = #[.ref b] ∧ s.IntsAt b xs ∧ xs.length ≤ 3584 ∧ (Jvm.Cond.and given_1 narrow_1).before args s = true
def lw_Q (_ : Array Value) (s : State) (o : Outcome) (t : State) : Prop := o = .returned (some (.int 1)) ∧ Framed s o t [] 600000 7302249
def lw_Z (below : List Frame) (a : Array Value) (s : State) : State → Prop := fun t => ∃ o, t.status = .running ∧ Ended t below o ∧ lw_Q a s o t
/-- the law's own end, with 1 on the stack, nothing written that was there before, its room as the claim has it -/
theorem lw_ret {p : Program} {l : Launch} {e : Env} {s : State} {m : MethodId} {below : List Frame} {meth : Method} {c : Code} {b : Nat} (hx : p.tables.exec = Jvm.exec) (hb : c.code = code) (hr : meth.sig.returnType = ret) (hlocks : meth.locks = false) {pc : Nat} {H : Heap} {ls : Array Slot} (hdg : decode code pc = .ok (.ireturn, 1)) : W p l e room_1 s m #[Value.ref b] below meth c H [] 600000 7302249 (lw_Z below #[Value.ref b] s) (F0 m pc ls [.int 1]) := by
  intro T hT X
  obtain ⟨fs, hret, hrun, hended, hW, hframe⟩ := X.leave (v := some (.int 1)) (hlocks := hlocks) (fun h => by rw [hr] at h; cases h)
  have hmeth' : T.vm.method? m = some meth := X.method'
  refine ⟨T.setFrames fs, ?_, .returned (some (.int 1)), hrun, hended, rfl, ⟨_, rfl⟩, hW, hframe⟩
  jvm_step X.here [X.here.top, hx, hb, hdg, hmeth', hr, ret, narrow_b1]
  (try refine ⟨rfl, ?_⟩); (try refine ⟨rfl, ?_⟩)
  first | (intro acts; rw [hret _ acts rfl rfl rfl]) | rw [hret _ _ rfl rfl rfl]
  exact Steps.refl _
/-- what holds at the law's entry: the machine, the code, the tables' words (any of lw_tbl by 'hts w (by decide +kernel)'), the script of L ints xs at the cell b, what the Statement gives of the start (any of its parts by flat_of_before) -/
def lw_At (p : Program) (s : State) (m : MethodId) (meth : Method) (c : Code) (b L : Nat) (xs : Nat → Int32) : Prop :=
  p.tables.exec = Jvm.exec ∧ c.code = code ∧ meth.sig.returnType = ret ∧ c.maxLocals = 4 ∧ s.vm.findClass R_law = some m.cls ∧ (∀ w ∈ lw_tbl, w.before #[Value.ref b] s = true) ∧ va_X b L xs s s.heap ∧ b < s.heap.size ∧ meth.locks = false ∧ (Jvm.Cond.and given_1 narrow_1).before #[Value.ref b] s = true
def LX (l : Launch) (D : va_G) (p : Program) (e : Env) (s : State) (m : MethodId) (below : List Frame) (meth : Method) (c : Code) (b : Nat) (pc : Nat) (lc : List (Nat × Value)) (st : List Value) (h : e_H) : Prop :=
  ∀ (H : Heap) (locs : List Loc) (cells slots : Nat) (E : e_E) (ls : Array Slot), e_Now D (fun q : Nat => s.heap.size ≤ q) E h s H locs → E.1 4000000 = b → lv_has ls 4 (e_lc E lc) → cells ≤ 96 → slots ≤ 5703 →
    W p l e room_1 s m #[Value.ref b] below meth c H locs cells slots (lw_Z below #[Value.ref b] s) (F0 m pc ls (st.map (e_v E)))
section E20
variable {l : Launch} {D : va_G} {p : Program} {e : Env} {s : State} {m : MethodId} {below : List Frame} {meth : Method} {c : Code} {b Ln : Nat} {xs : Nat → Int32} {pc : Nat} {lc : List (Nat × Value)} {st : List Value} {h : e_H}
theorem LX.iconst {n : Int} {v : Int32} (C0 : lw_At p s m meth c b Ln xs) (hd : decode code pc = .ok (.iconst n, 1)) (hv : Int32.ofInt n = v) (K : LX l D p e s m below meth c b (pc + 1) lc (.int v :: st) h) : LX l D p e s m below meth c b pc lc st h := by
  intro H locs cells slots E ls N hb4 L cC cS
  exact lv_iconst C0.1 C0.2.1 hd hv (K H locs cells slots E ls N hb4 L cC cS)
theorem LX.bipush {n : Int} {v : Int32} (C0 : lw_At p s m meth c b Ln xs) (hd : decode code pc = .ok (.bipush n, 2)) (hv : (Int8.ofInt n).toInt32 = v) (K : LX l D p e s m below meth c b (pc + 2) lc (.int v :: st) h) : LX l D p e s m below meth c b pc lc st h := by
  intro H locs cells slots E ls N hb4 L cC cS
  exact lv_bipush C0.1 C0.2.1 hd hv (K H locs cells slots E ls N hb4 L cC cS)
theorem LX.iload_n {k : Fin 4} {i j : Nat} {x : Int32} (C0 : lw_At p s m meth c b Ln xs) (hd : decode code pc = .ok (.iload_n k, 1)) (hi : (k : Nat) = i) (hl : lc[j]? = some (i, .int x)) (K : LX l D p e s m below meth c b (pc + 1) lc (.int x :: st) h) : LX l D p e s m below meth c b pc lc st h := by
  intro H locs cells slots E ls N hb4 L cC cS
  exact lv_iload_n C0.1 C0.2.1 hd hi (lv_at L j (e_lc_at hl)) (K H locs cells slots E ls N hb4 L cC cS)
theorem LX.aload_n {k : Fin 4} {i j x : Nat} (C0 : lw_At p s m meth c b Ln xs) (hd : decode code pc = .ok (.aload_n k, 1)) (hi : (k : Nat) = i) (hl : lc[j]? = some (i, .ref x)) (K : LX l D p e s m below meth c b (pc + 1) lc (.ref x :: st) h) : LX l D p e s m below meth c b pc lc st h := by
  intro H locs cells slots E ls N hb4 L cC cS
  exact lv_aload_n C0.1 C0.2.1 hd hi (lv_at L j (e_lc_at hl)) (K H locs cells slots E ls N hb4 L cC cS)
theorem LX.iadd {x y : Int32} (C0 : lw_At p s m meth c b Ln xs) (hd : decode code pc = .ok (.iadd, 1)) (K : LX l D p e s m below meth c b (pc + 1) lc (.int (x + y) :: st) h) : LX l D p e s m below meth c b pc lc (.int y :: .int x :: st) h := by
  intro H locs cells slots E ls N hb4 L cC cS
  exact lv_iadd C0.1 C0.2.1 hd  (K H locs cells slots E ls N hb4 L cC cS)
theorem LX.isub {x y : Int32} (C0 : lw_At p s m meth c b Ln xs) (hd : decode code pc = .ok (.isub, 1)) (K : LX l D p e s m below meth c b (pc + 1) lc (.int (x - y) :: st) h) : LX l D p e s m below meth c b pc lc (.int y :: .int x :: st) h := by
  intro H locs cells slots E ls N hb4 L cC cS
  exact lv_isub C0.1 C0.2.1 hd  (K H locs cells slots E ls N hb4 L cC cS)
theorem LX.iand {x y : Int32} (C0 : lw_At p s m meth c b Ln xs) (hd : decode code pc = .ok (.iand, 1)) (K : LX l D p e s m below meth c b (pc + 1) lc (.int (x &&& y) :: st) h) : LX l D p e s m below meth c b pc lc (.int y :: .int x :: st) h := by
  intro H locs cells slots E ls N hb4 L cC cS
  exact lv_iand C0.1 C0.2.1 hd  (K H locs cells slots E ls N hb4 L cC cS)
theorem LX.lcmp {x y : Int64} (C0 : lw_At p s m meth c b Ln xs) (hd : decode code pc = .ok (.lcmp, 1)) (K : LX l D p e s m below meth c b (pc + 1) lc (.int (lg_cmp x y) :: st) h) : LX l D p e s m below meth c b pc lc (.long y :: .long x :: st) h := by
  intro H locs cells slots E ls N hb4 L cC cS
  exact W.lcmp C0.1 C0.2.1 hd  (K H locs cells slots E ls N hb4 L cC cS)
theorem LX.goto {off : Int} {tgt : Nat} (C0 : lw_At p s m meth c b Ln xs) (hd : decode code pc = .ok (.goto off, 3)) (ht : (pc : Int) + off = (tgt : Int)) (K : LX l D p e s m below meth c b (tgt) lc st h) : LX l D p e s m below meth c b pc lc st h := by
  intro H locs cells slots E ls N hb4 L cC cS
  exact lv_goto C0.1 C0.2.1 hd ht (K H locs cells slots E ls N hb4 L cC cS)
theorem LX.tableIn {dflt lo hi : Int} {offs : Array Int} {len : Nat} {x : Int32} {off : Int} {tgt : Nat} (C0 : lw_At p s m meth c b Ln xs) (hd : decode code pc = .ok (.tableswitch dflt lo hi offs, len)) (h1 : ¬ x.toInt < lo) (h2 : ¬ hi < x.toInt) (ho : offs[(x.toInt - lo).toNat]? = some off) (ht : (pc : Int) + off = (tgt : Int)) (K : LX l D p e s m below meth c b (tgt) lc st h) : LX l D p e s m below meth c b pc lc (.int x :: st) h := by
  intro H locs cells slots E ls N hb4 L cC cS
  exact lv_tableIn C0.1 C0.2.1 hd h1 h2 ho ht (K H locs cells slots E ls N hb4 L cC cS)
theorem LX.tableOut {dflt lo hi : Int} {offs : Array Int} {len : Nat} {x : Int32} {tgt : Nat} (C0 : lw_At p s m meth c b Ln xs) (hd : decode code pc = .ok (.tableswitch dflt lo hi offs, len)) (hh : x.toInt < lo ∨ hi < x.toInt) (ht : (pc : Int) + dflt = (tgt : Int)) (K : LX l D p e s m below meth c b (tgt) lc st h) : LX l D p e s m below meth c b pc lc (.int x :: st) h := by
  intro H locs cells slots E ls N hb4 L cC cS
  exact lv_tableOut C0.1 C0.2.1 hd hh ht (K H locs cells slots E ls N hb4 L cC cS)
theorem LX.icmp_eq {x y : Int32} {off : Int} {tgt : Nat} (C0 : lw_At p s m meth c b Ln xs) (hd : decode code pc = .ok (.if_icmp .eq off, 3)) (ht : (pc : Int) + off = (tgt : Int)) (hxy : x = y) (K : LX l D p e s m below meth c b tgt lc st h) : LX l D p e s m below meth c b pc lc (.int y :: .int x :: st) h := by
  intro H locs cells slots E ls N hb4 L cC cS
  exact lv_icmp_eq C0.1 C0.2.1 hd ht (fun _ => K H locs cells slots E ls N hb4 L cC cS) (fun z => absurd hxy z)
theorem LX.if_eq {x : Int32} {off : Int} {tgt : Nat} (C0 : lw_At p s m meth c b Ln xs) (hd : decode code pc = .ok (.ifCond .eq off, 3)) (ht : (pc : Int) + off = (tgt : Int)) (hxy : x = 0) (K : LX l D p e s m below meth c b tgt lc st h) : LX l D p e s m below meth c b pc lc (.int x :: st) h := by
  intro H locs cells slots E ls N hb4 L cC cS
  exact lv_if_eq C0.1 C0.2.1 hd ht (fun _ => K H locs cells slots E ls N hb4 L cC cS) (fun z => absurd hxy z)
theorem LX.icmp_gt {x y : Int32} {off : Int} {tgt : Nat} (C0 : lw_At p s m meth c b Ln xs) (hd : decode code pc = .ok (.if_icmp .gt off, 3)) (ht : (pc : Int) + off = (tgt : Int)) (kt : y < x → LX l D p e s m below meth c b tgt lc st h) (kf : ¬ y < x → LX l D p e s m below meth c b (pc + 3) lc st h) : LX l D p e s m below meth c b pc lc (.int y :: .int x :: st) h := by
  intro H locs cells slots E ls N hb4 L cC cS
  exact lv_icmp_gt C0.1 C0.2.1 hd ht (fun z => kt z H locs cells slots E ls N hb4 L cC cS) (fun z => kf z H locs cells slots E ls N hb4 L cC cS)
theorem LX.istore_n {k : Fin 4} {i : Nat} {x : Int32} {lc' : List (Nat × Value)} (C0 : lw_At p s m meth c b Ln xs) (hd : decode code pc = .ok (.istore_n k, 1)) (hi : (k : Nat) = i) (hn : i < 4) (hl : (i, Value.int x) :: lc.filter (fun q => !(q.1 == i) && !(q.1 + 1 == i && q.2.category == 2)) = lc') (K : LX l D p e s m below meth c b (pc + 1) lc' st h) : LX l D p e s m below meth c b pc lc (.int x :: st) h := by
  intro H locs cells slots E ls N hb4 L cC cS
  exact lv_istore_n C0.1 C0.2.1 hd hi L hn ((e_lc_fil i (Value.int x)).trans (by rw [hl])) (fun ls' L' => K H locs cells slots E ls' N hb4 L' cC cS)
theorem LX.astore_n {k : Fin 4} {i : Nat} {x : Nat} {lc' : List (Nat × Value)} (C0 : lw_At p s m meth c b Ln xs) (hd : decode code pc = .ok (.astore_n k, 1)) (hi : (k : Nat) = i) (hn : i < 4) (hl : (i, Value.ref x) :: lc.filter (fun q => !(q.1 == i) && !(q.1 + 1 == i && q.2.category == 2)) = lc') (K : LX l D p e s m below meth c b (pc + 1) lc' st h) : LX l D p e s m below meth c b pc lc (.ref x :: st) h := by
  intro H locs cells slots E ls N hb4 L cC cS
  exact lv_astore_n C0.1 C0.2.1 hd hi L hn ((e_lc_fil i (Value.ref x)).trans (by rw [hl])) (fun ls' L' => K H locs cells slots E ls' N hb4 L' cC cS)
theorem LX.iinc {i j : Nat} {n : Int} {x v : Int32} {lc' : List (Nat × Value)} (C0 : lw_At p s m meth c b Ln xs) (hd : decode code pc = .ok (.iinc i n, 3)) (hk : lc[j]? = some (i, .int x)) (hv : x + Int32.ofInt n = v) (hn : i < 4) (hl : (i, Value.int v) :: lc.filter (fun q => !(q.1 == i) && !(q.1 + 1 == i && q.2.category == 2)) = lc') (K : LX l D p e s m below meth c b (pc + 3) lc' st h) : LX l D p e s m below meth c b pc lc st h := by
  intro H locs cells slots E ls N hb4 L cC cS
  exact lv_iinc C0.1 C0.2.1 hd L (e_lc_at hk) hv hn ((e_lc_fil i (Value.int v)).trans (by rw [hl])) (fun ls' L' => K H locs cells slots E ls' N hb4 L' cC cS)
theorem LX.sub (ks : List Nat) {lc' : List (Nat × Value)} (hl : lv_pick lc ks = lc') (K : LX l D p e s m below meth c b pc lc' st h) : LX l D p e s m below meth c b pc lc st h := by
  intro H locs cells slots E ls N hb4 L cC cS
  exact K H locs cells slots E ls N hb4 (lv_sub L ks (by rw [e_lc_pick, hl])) cC cS
theorem LX.slen (C0 : lw_At p s m meth c b Ln xs) (hd : decode code pc = .ok (.arraylength, 1)) (K : LX l D p e s m below meth c b (pc + 1) lc (.int (Int32.ofNat Ln) :: st) h) : LX l D p e s m below meth c b pc lc (.ref 4000000 :: st) h := by
  intro H locs cells slots E ls N hb4 L cC cS
  have k := va_slen (rest := st.map (e_v E)) (ls := ls) C0.1 C0.2.1 C0.2.2.2.2.2.2.1 C0.2.2.2.2.2.2.2.1 (Nat.not_le.mpr C0.2.2.2.2.2.2.2.1) N.2.2.1 hd (K H locs cells slots E ls N hb4 L cC cS)
  rw [← hb4] at k
  rw [← hb4]
  exact k
theorem LX.sld {j : Nat} (C0 : lw_At p s m meth c b Ln xs) (hL : Ln ≤ 3584) (hd : decode code pc = .ok (.iaload, 1)) (hj : j < Ln) (K : LX l D p e s m below meth c b (pc + 1) lc (.int (xs j) :: st) h) : LX l D p e s m below meth c b pc lc (.int (nI j) :: .ref 4000000 :: st) h := by
  intro H locs cells slots E ls N hb4 L cC cS
  have hin : vp_in (nI j) Ln := vp_in_nI hj (by omega)
  have e1 : (nI j).toNatClampNeg = j := nI_clamp (by omega)
  have k0 := K H locs cells slots E ls N hb4 L cC cS
  have k := va_sld (rest := st.map (e_v E)) (ls := ls) C0.1 C0.2.1 C0.2.2.2.2.2.2.1 C0.2.2.2.2.2.2.2.1 (Nat.not_le.mpr C0.2.2.2.2.2.2.2.1) N.2.2.1 hin hd (by rw [e1]; exact k0)
  rw [← hb4] at k
  rw [← hb4]
  exact k
theorem LX.callV {idx ci bb : Nat} {M' : e_M} {d : Nat} {av : List Value} {r1 : Option Value} {S : e_S} {g g1 : e_G} (C0 : lw_At p s m meth c b Ln xs) (hd : decode code pc = .ok (.invokevirtual idx, 3)) (hc : CT l D (e_R d) M' (.ref bb :: av) (S, g) r1 (S, g1)) (hw : ∀ w ∈ wsV R_law idx (e_C ci).1 M'.1 [Cond.code M'.1 M'.2.1 M'.2.2.1 M'.2.2.2], w ∈ e_big) (hci : ci < 12) (hcl : M'.1.cls = (e_C ci).1) (hm : e_Mok M' av.length) (ho : e_ob S ci bb = true) (hR : d ≤ 1000 ∧ M'.2.2.1 ≤ 100) (hst : (st.map fun v => v.category).sum ≤ 8)
    (K : LX l D p e s m below meth c b (pc + 3) lc (r1.toList ++ st) (S, g1)) : LX l D p e s m below meth c b pc lc (av.reverse ++ .ref bb :: st) (S, g) := by
  intro H locs cells slots E ls N hb4 L cC cS
  have hts : ∀ w ∈ e_big, w.before #[Value.ref b] s = true := fun w hq => C0.2.2.2.2.2.1 w (List.mem_filter.mp hq).1
  have hws : ∀ w ∈ wsV R_law idx (e_C ci).1 M'.1 (Cond.code M'.1 M'.2.1 M'.2.2.1 M'.2.2.2 :: e_big), w ∈ e_big := by
    intro w hq
    unfold wsV at hq hw
    rcases List.mem_append.mp hq with hq | hq
    · exact hw w (List.mem_append_left _ hq)
    · rcases List.mem_cons.mp hq with hq | hq
      · exact hw w (List.mem_append_right _ (by rw [hq]; exact List.mem_singleton.mpr rfl))
      · exact hq
  have hrm : (e_R d).frames + 1 ≤ room_1.frames ∧ 8 + (M'.2.2.1 + 11) + (e_R d).locals ≤ room_1.locals := by
    refine ⟨?_, ?_⟩
    · show d + 1 ≤ 2048
      omega
    · show 8 + (M'.2.2.1 + 11) + 64 * d ≤ 84000
      omega
  have hcw : CallW room_1 s #[Value.ref b] R_law (e_C ci).1 idx M'.1 M'.2.1 M'.2.2.1 M'.2.2.2 (Cond.code M'.1 M'.2.1 M'.2.2.1 M'.2.2.2 :: e_big) (e_R d) 0 0 av.length := cwV av.length hts (e_goodIn hws) rfl rfl rfl ⟨hcl, hm⟩ hrm
  have hrun := va_runV (p := p) (e := e) (below := below) (meth := meth) (H := H) (locs := locs) (cells := cells) (slots := slots) (As := av.map (e_v E)) (b := E.1 bb) (rest := st.map (e_v E)) (g := F0 m pc ls ((av.reverse ++ .ref bb :: st).map (e_v E))) ⟨C0.1, C0.2.1, C0.2.2.2.1, C0.2.2.2.2.1, hts⟩ (hc E H.size) hcw
    ⟨e_blind, e_recv N ho hci, fun U hU hW => ⟨rfl, e_Pc_ok N hU hW⟩⟩ rfl (by rw [List.length_map]) L.1 (by simp [e_v, List.map_reverse]) (lv_room (by rw [e_cats]; exact hst)) hd ⟨by show cells + 0 ≤ 600000; omega, by show slots + 0 ≤ 7302249; omega⟩
  refine e_call N hrun (fun E' H1 locs1 N1 hx => ?_)
  have := hx.same
  subst this
  have k := K H1 locs1 (cells + 0) (slots + 0) E' ls N1 hb4 L (by omega) (by omega)
  rw [List.map_append] at k
  have e9 : (r1.map (e_v E')).toList = r1.toList.map (e_v E') := by cases r1 <;> rfl
  rw [e9]
  exact k
theorem LX.ret1 (C0 : lw_At p s m meth c b Ln xs) (hd : decode code pc = .ok (.ireturn, 1)) : LX l D p e s m below meth c b pc lc [.int 1] h := by
  intro H locs cells slots E ls N hb4 L cC cS
  refine va_forget (fun q hq => N.2.2.1.2.2 q hq) ?_
  exact W.widen (by omega) (by omega) (lw_ret C0.1 C0.2.1 C0.2.2.1 C0.2.2.2.2.2.2.2.2.1 hd)
theorem LX.arg {i k : Nat} {kz : Int} (C0 : lw_At p s m meth c b Ln xs) (hL : Ln ≤ 3584) (d0 : decode code pc = .ok (.aload_n 0, 1)) (d1 : decode code (pc + 1) = .ok (.iload_n 3, 1)) (d2 : decode code (pc + 2) = .ok (.iconst kz, 1)) (hk : Int32.ofInt kz = nI k) (d3 : decode code (pc + 3) = .ok (.iadd, 1)) (d4 : decode code (pc + 4) = .ok (.iaload, 1)) (hj : i + k < Ln) (h0 : lc[0]? = some (0, .ref 4000000)) (h3 : lc[3]? = some (3, .int (nI i))) (K : LX l D p e s m below meth c b (pc + 5) lc (.int (xs (i + k)) :: st) h) : LX l D p e s m below meth c b pc lc st h := by
  refine LX.aload_n C0 d0 rfl (j := 0) h0 ?_
  refine LX.iload_n C0 d1 rfl (j := 3) h3 ?_
  refine LX.iconst C0 d2 hk ?_
  refine LX.iadd C0 d3 ?_
  rw [nI_add]
  exact LX.sld C0 hL d4 hj K
theorem LX.arg6 {i k : Nat} {kz : Int} (C0 : lw_At p s m meth c b Ln xs) (hL : Ln ≤ 3584) (d0 : decode code pc = .ok (.aload_n 0, 1)) (d1 : decode code (pc + 1) = .ok (.iload_n 3, 1)) (d2 : decode code (pc + 2) = .ok (.bipush kz, 2)) (hk : (Int8.ofInt kz).toInt32 = nI k) (d3 : decode code (pc + 4) = .ok (.iadd, 1)) (d4 : decode code (pc + 5) = .ok (.iaload, 1)) (hj : i + k < Ln) (h0 : lc[0]? = some (0, .ref 4000000)) (h3 : lc[3]? = some (3, .int (nI i))) (K : LX l D p e s m below meth c b (pc + 6) lc (.int (xs (i + k)) :: st) h) : LX l D p e s m below meth c b pc lc st h := by
  refine LX.aload_n C0 d0 rfl (j := 0) h0 ?_
  refine LX.iload_n C0 d1 rfl (j := 3) h3 ?_
  refine LX.bipush C0 d2 hk ?_
  refine LX.iadd C0 d3 ?_
  rw [nI_add]
  exact LX.sld C0 hL d4 hj K
theorem lg_same (x : Int64) : lg_cmp x x = 0 := by
  unfold lg_cmp
  simp
end E20
