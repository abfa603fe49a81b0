/-! String constants: length, charAt, by the JDK's own code -/
abbrev M_String_length : e_M := (yJ0_length_8abf5, cJ0_length_8abf5, 1, some .int)
abbrev M_String_coder : e_M := (yJ0_coder_7d493, cJ0_coder_7d493, 1, some .byte)
abbrev M_String_isLatin1 : e_M := (yJ0_isLatin1_aae02, cJ0_isLatin1_aae02, 1, some .boolean)
abbrev M_String_charAt : e_M := (yJ0_charAt_5068e, cJ0_charAt_5068e, 2, some .char)
abbrev M_String_checkIndex : e_M := (yJ0_checkIndex_df160, cJ0_checkIndex_df160, 2, none)
abbrev M_Latin1_charAt : e_M := (yJ1_charAt_3b067, cJ1_charAt_3b067, 2, some .char)
abbrev M_Pre_checkIndex : e_M := (yJ3_checkIndex_8e157, cJ3_checkIndex_8e157, 3, some .int)
def e_RR (d mc ms : Nat) : Room := { frames := d, cells := mc, slots := ms, locals := 64 * d }
abbrev e_R (d : Nat) : Room := e_RR d 0 0
theorem e_R_ok {d d' maxL mc ms mc' ms' : Nat} (h : d' + 1 ≤ d) (hm : maxL ≤ 45) : e_Rm (e_RR d mc ms) (e_RR d' mc' ms') maxL := ⟨h, by show 8 + (maxL + 11) + 64 * d' ≤ 64 * d; omega⟩
section E7
variable {l : Launch} {D : va_G} {R : Room} {M : e_M} {bc bs pc : Nat} {lc : List (Nat × Value)} {st : List Value} {h : e_H} {r : Option Value} {h' : e_H}
theorem X.strVal {idx i : Nat} (hd : decode M.2.1 pc = .ok (.getfield idx, 3)) (hw : Cond.fieldLink M.1.cls idx "java/lang/String" "value" "[B" ∈ e_big) (hi : i < e_nS) (K : X l D R M bc bs (pc + 3) lc (.ref (2000000 + i) :: st) h r h') : X l D R M bc bs pc lc (.ref (1000000 + i) :: st) h r h' := by
  intro p e s m args below meth c H locs cells slots E0 h0 E ls C hin N ext L bC bS
  exact vk_getf C.1 C.2.1 (N.2.2.2.2.1.1.1 i hi).2.2.1 N.2.2.1 C.2.2.2.2.1 (C.2.2.2.2.2.1 _ hw) (fun _ z => z) hd (K p e s m args below meth c H locs cells slots E0 h0 E ls C hin N ext L bC bS)
theorem X.strCod {idx i : Nat} (hd : decode M.2.1 pc = .ok (.getfield idx, 3)) (hw : Cond.fieldLink M.1.cls idx "java/lang/String" "coder" "B" ∈ e_big) (hi : i < e_nS) (K : X l D R M bc bs (pc + 3) lc (.int 0 :: st) h r h') : X l D R M bc bs pc lc (.ref (1000000 + i) :: st) h r h' := by
  intro p e s m args below meth c H locs cells slots E0 h0 E ls C hin N ext L bC bS
  exact vk_getf C.1 C.2.1 (N.2.2.2.2.1.1.1 i hi).2.1 N.2.2.1 C.2.2.2.2.1 (C.2.2.2.2.2.1 _ hw) (fun _ z => z) hd (K p e s m args below meth c H locs cells slots E0 h0 E ls C hin N ext L bC bS)
theorem X.strLen {i : Nat} {v : Int32} (hd : decode M.2.1 pc = .ok (.arraylength, 1)) (hi : i < e_nS) (hv : Int32.ofNat (e_len.getD i 0) = v) (K : X l D R M bc bs (pc + 1) lc (.int v :: st) h r h') : X l D R M bc bs pc lc (.ref (2000000 + i) :: st) h r h' := by
  intro p e s m args below meth c H locs cells slots E0 h0 E ls C hin N ext L bC bS
  exact va_tlen C.1 C.2.1 (N.2.2.2.2.1.1.1 i hi).2.2.2 N.2.2.1 hv hd (K p e s m args below meth c H locs cells slots E0 h0 E ls C hin N ext L bC bS)
theorem X.strB {i : Nat} {j v : Int32} (hd : decode M.2.1 pc = .ok (.baload, 1)) (hi : i < e_nS) (hj : vp_in j (e_len.getD i 0)) (hv : (e_byt.getD i []).getD j.toNatClampNeg 0 = v) (K : X l D R M bc bs (pc + 1) lc (.int v :: st) h r h') : X l D R M bc bs pc lc (.int j :: .ref (2000000 + i) :: st) h r h' := by
  intro p e s m args below meth c H locs cells slots E0 h0 E ls C hin N ext L bC bS
  exact va_tb C.1 C.2.1 (N.2.2.2.2.1.1.1 i hi).2.2.2 N.2.2.1 hj (v := .int v) (by rw [← hv]) hd (K p e s m args below meth c H locs cells slots E0 h0 E ls C hin N ext L bC bS)
theorem X.gCompact {idx : Nat} (hd : decode M.2.1 pc = .ok (.getstatic idx, 3)) (hw : Cond.fieldLink M.1.cls idx "java/lang/String" "COMPACT_STRINGS" "Z" ∈ e_big) (K : X l D R M bc bs (pc + 3) lc (.int 1 :: st) h r h') : X l D R M bc bs pc lc st h r h' := by
  intro p e s m args below meth c H locs cells slots E0 h0 E ls C hin N ext L bC bS
  exact va_gets C.1 C.2.1 N.2.2.2.2.1.2.2.1 N.2.2.1 C.2.2.2.2.1 (C.2.2.2.2.2.1 _ hw) (fun _ z => z) hd (K p e s m args below meth c H locs cells slots E0 h0 E ls C hin N ext L bC bS)
theorem X.gFmt {idx : Nat} (hd : decode M.2.1 pc = .ok (.getstatic idx, 3)) (hw : Cond.fieldLink M.1.cls idx "jdk/internal/util/Preconditions" "SIOOBE_FORMATTER" "Ljava/util/function/BiFunction;" ∈ e_big) (K : X l D R M bc bs (pc + 3) lc (.retAddr 0 :: st) h r h') : X l D R M bc bs pc lc st h r h' := by
  intro p e s m args below meth c H locs cells slots E0 h0 E ls C hin N ext L bC bS
  exact va_gets C.1 C.2.1 N.2.2.2.2.1.2.2.2 N.2.2.1 C.2.2.2.2.1 (C.2.2.2.2.2.1 _ hw) (fun _ z => z) hd (K p e s m args below meth c H locs cells slots E0 h0 E ls C hin N ext L bC bS)
theorem X.i2c {x : Int32} (hd : decode M.2.1 pc = .ok (.i2c, 1)) (K : X l D R M bc bs (pc + 1) lc (.int (x.toUInt32 % 65536).toInt32 :: st) h r h') : X l D R M bc bs pc lc (.int x :: st) h r h' := by
  intro p e s m args below meth c H locs cells slots E0 h0 E ls C hin N ext L bC bS
  exact lv_i2c C.1 C.2.1 hd rfl (K p e s m args below meth c H locs cells slots E0 h0 E ls C hin N ext L bC bS)
theorem X.callVS {idx i : Nat} {M' : e_M} {R' : Room} {av : List Value} {r1 : Option Value} {g : e_G} (hd : decode M.2.1 pc = .ok (.invokevirtual idx, 3)) (hc : CT l D R' M' (.ref (1000000 + i) :: av) h r1 (h.1, g)) (hw : ∀ w ∈ wsV M.1.cls idx "java/lang/String" M'.1 [Cond.code M'.1 M'.2.1 M'.2.2.1 M'.2.2.2], w ∈ e_big) (hi : i < e_nS) (hcl : M'.1.cls = "java/lang/String") (hm : e_Mok M' av.length) (hR : e_Rm R R' M'.2.2.1) (hz : R'.cells = 0 ∧ R'.slots = 0) (hst : (st.map fun v => v.category).sum ≤ 8)
    (K : X l D R M bc bs (pc + 3) lc (r1.toList ++ st) (h.1, g) r h') : X l D R M bc bs pc lc (av.reverse ++ .ref (1000000 + i) :: st) h r h' := by
  intro p e s m args below meth c H locs cells slots E0 h0 E ls C hin N ext L bC bS
  have hws : ∀ w ∈ wsV M.1.cls idx "java/lang/String" M'.1 (Cond.code M'.1 M'.2.1 M'.2.2.1 M'.2.2.2 :: e_big), w ∈ e_big := by
    intro w hq
    unfold wsV at hq hw
    rcases List.mem_append.mp hq with hq | hq
    · exact hw w (List.mem_append_left _ hq)
    · rcases List.mem_cons.mp hq with hq | hq
      · exact hw w (List.mem_append_right _ (by rw [hq]; exact List.mem_singleton.mpr rfl))
      · exact hq
  have hcw : CallW R s args M.1.cls "java/lang/String" idx M'.1 M'.2.1 M'.2.2.1 M'.2.2.2 (Cond.code M'.1 M'.2.1 M'.2.2.1 M'.2.2.2 :: e_big) R' R'.cells R'.slots av.length := cwV av.length C.2.2.2.2.2.1 (e_goodIn hws) rfl rfl rfl ⟨hcl, hm⟩ hR
  have hrun := va_runV (p := p) (e := e) (below := below) (meth := meth) (H := H) (locs := locs) (cells := cells) (slots := slots) (As := av.map (e_v E)) (b := E.1 (1000000 + i)) (rest := st.map (e_v E)) (g := F0 m pc ls ((av.reverse ++ .ref (1000000 + i) :: st).map (e_v E))) ⟨C.1, C.2.1, C.2.2.1, C.2.2.2.2.1, C.2.2.2.2.2.1⟩ (hc E H.size) hcw
    ⟨e_blind, vk_recv (adK := fun i => E.1 (1000000 + i)) (i := i) N.2.2.2.2.1.1 hi N.2.2.1, fun U hU hW => ⟨rfl, e_Pc_ok N hU hW⟩⟩ rfl (by rw [List.length_map]) L.1 (by simp [e_v, List.map_reverse]) (lv_room (by rw [e_cats]; exact hst)) hd ⟨by omega, by omega⟩
  refine e_call N hrun (fun E' H1 locs1 N1 hx => ?_)
  have := hx.same
  subst this
  have k := K p e s m args below meth c H1 locs1 (cells + R'.cells) (slots + R'.slots) E0 h0 E' ls C hin N1 ext L (by omega) (by omega)
  rw [List.map_append] at k
  have e9 : (r1.map (e_v E')).toList = r1.toList.map (e_v E') := by cases r1 <;> rfl
  rw [e9]
  exact k
end E7
