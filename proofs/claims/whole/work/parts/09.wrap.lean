theorem ob {α β : Type} {o : Option α} {f : α → Option β} {b : β} (h : o.bind f = some b) : ∃ a, o = some a ∧ f a = some b := by
  cases o with
  | none => cases h
  | some a => exact ⟨a, rfl, h⟩
theorem e_ret {α β : Type} {a w : α} {b k : β} (h : some (a, b) = some (w, k)) : a = w ∧ b = k := Prod.mk.inj (Option.some.inj h)
theorem e_all4 {S : List Cond} {a b c d : Cond} (h1 : a ∈ S) (h2 : b ∈ S) (h3 : c ∈ S) (h4 : d ∈ S) : ∀ w ∈ ([a, b, c, d] : List Cond), w ∈ S := by
  intro w h
  simp only [List.mem_cons, List.not_mem_nil, or_false] at h
  rcases h with rfl | rfl | rfl | rfl <;> assumption
theorem e_all5 {S : List Cond} {a b c d e : Cond} (h1 : a ∈ S) (h2 : b ∈ S) (h3 : c ∈ S) (h4 : d ∈ S) (h5 : e ∈ S) : ∀ w ∈ ([a, b, c, d, e] : List Cond), w ∈ S := by
  intro w h
  simp only [List.mem_cons, List.not_mem_nil, or_false] at h
  rcases h with rfl | rfl | rfl | rfl | rfl <;> assumption
theorem e_all6 {S : List Cond} {a b c d e f : Cond} (h1 : a ∈ S) (h2 : b ∈ S) (h3 : c ∈ S) (h4 : d ∈ S) (h5 : e ∈ S) (h6 : f ∈ S) : ∀ w ∈ ([a, b, c, d, e, f] : List Cond), w ∈ S := by
  intro w h
  simp only [List.mem_cons, List.not_mem_nil, or_false] at h
  rcases h with rfl | rfl | rfl | rfl | rfl | rfl <;> assumption
theorem e_bool {v : Int32} (h : v = 0 ∨ v = 1) : narrow .boolean (.int v) = .int v := by
  rcases h with rfl | rfl <;> rfl
theorem e_ne {x k : Int32} {z : Int} (hz : k.toInt = z) (h : ¬ x = k) : x.toInt ≠ z := fun q => h (Int32.toInt_inj.mp (q.trans hz.symm))
def i_rem (x y : Int32) : Int32 := x - x / y * y
def l_rem (x y : Int64) : Int64 := x - x / y * y
def i_ushr (x y : Int32) : Int32 := (x.toUInt32 >>> (y.toUInt32 &&& Int32.toUInt32 31)).toInt32
def i_max (x y : Int32) : Int32 := if x < y then y else x
def i_min (x y : Int32) : Int32 := if y < x then y else x
def i_abs (x : Int32) : Int32 := if 0 ≤ x then x else 0 - x
def f_str_length (r : Nat) : Option Int32 := if 1000000 ≤ r ∧ r - 1000000 < e_nS then some (Int32.ofNat (e_len.getD (r - 1000000) 0)) else none
def f_str_charAt (r : Nat) (i : Int32) : Option Int32 := if (1000000 ≤ r ∧ r - 1000000 < e_nS) ∧ e_in i (e_len.getD (r - 1000000) 0) = true then some ((e_byt.getD (r - 1000000) []).getD i.toNatClampNeg 0) else none
section E8
variable {l : Launch} {D : va_G} {R : Room} {M : e_M} {bc bs pc : Nat} {lc : List (Nat × Value)} {st : List Value} {S : e_S} {g g1 : e_G} {r : Option Value} {h' : e_H}
theorem Y.getI {idx ci k a : Nat} {v : Int32} (hd : decode M.2.1 pc = .ok (.getfield idx, 3)) (hw : e_FL M.1.cls idx ci k) (hr : e_rf ci k = false) (hg : e_gI S g ci a k = some v) (K : X l D R M bc bs (pc + 3) lc (.int v :: st) (S, g) r h') : X l D R M bc bs pc lc (.ref a :: st) (S, g) r h' := X.getI hd hw hr hg K
theorem Y.getR {idx ci k a b : Nat} (hd : decode M.2.1 pc = .ok (.getfield idx, 3)) (hw : e_FL M.1.cls idx ci k) (hr : e_rf ci k = true) (hg : e_gR S g ci a k = some b) (K : X l D R M bc bs (pc + 3) lc (.ref b :: st) (S, g) r h') : X l D R M bc bs pc lc (.ref a :: st) (S, g) r h' := X.getR hd hw hr hg K
theorem Y.putI {idx ci k a : Nat} {v : Int32} (hd : decode M.2.1 pc = .ok (.putfield idx, 3)) (hw : e_FL M.1.cls idx ci k) (hr : e_rf ci k = false) (hf : ((e_C ci).2.1 k).2.2.2 = false) (hn : narrow (e_tyF ci k) (.int v) = .int v) (hfit : fits (e_tyF ci k) (.int v) = true) (hg : e_sI S g ci a k v = some g1) (K : X l D R M bc bs (pc + 3) lc st (S, g1) r h') : X l D R M bc bs pc lc (.int v :: .ref a :: st) (S, g) r h' := X.putI hd hw hr hf hn hfit hg K
theorem Y.putR {idx ci k a b : Nat} (hd : decode M.2.1 pc = .ok (.putfield idx, 3)) (hw : e_FL M.1.cls idx ci k) (hr : e_rf ci k = true) (hf : ((e_C ci).2.1 k).2.2.2 = false) (hg : e_sR S g ci a k b = some g1) (K : X l D R M bc bs (pc + 3) lc st (S, g1) r h') : X l D R M bc bs pc lc (.ref b :: .ref a :: st) (S, g) r h' := X.putR hd hw hr hf hg K
theorem Y.iald {a : Nat} {i v : Int32} (hd : decode M.2.1 pc = .ok (.iaload, 1)) (hg : e_aI S g 0 a i = some v) (K : X l D R M bc bs (pc + 1) lc (.int v :: st) (S, g) r h') : X l D R M bc bs pc lc (.int i :: .ref a :: st) (S, g) r h' := X.iald hd hg K
theorem Y.zald {a : Nat} {i v : Int32} (hd : decode M.2.1 pc = .ok (.baload, 1)) (hg : e_aI S g 1 a i = some v) (K : X l D R M bc bs (pc + 1) lc (.int v :: st) (S, g) r h') : X l D R M bc bs pc lc (.int i :: .ref a :: st) (S, g) r h' := X.zald hd hg K
theorem Y.aald {kd a b : Nat} {i : Int32} (hd : decode M.2.1 pc = .ok (.aaload, 1)) (hk : kd = 2 ∨ kd = 3 ∨ kd = 4) (hg : e_aR S g kd a i = some b) (K : X l D R M bc bs (pc + 1) lc (.ref b :: st) (S, g) r h') : X l D R M bc bs pc lc (.int i :: .ref a :: st) (S, g) r h' := X.aald hd hk hg K
theorem Y.iast {a : Nat} {i v : Int32} (hd : decode M.2.1 pc = .ok (.iastore, 1)) (hg : e_aS S g 0 a i v = some g1) (K : X l D R M bc bs (pc + 1) lc st (S, g1) r h') : X l D R M bc bs pc lc (.int v :: .int i :: .ref a :: st) (S, g) r h' := X.iast hd hg K
theorem Y.zast {a : Nat} {i v : Int32} (hd : decode M.2.1 pc = .ok (.bastore, 1)) (hg : e_aS S g 1 a i v = some g1) (K : X l D R M bc bs (pc + 1) lc st (S, g1) r h') : X l D R M bc bs pc lc (.int v :: .int i :: .ref a :: st) (S, g) r h' := X.zast hd hg K
theorem Y.alen {kd a : Nat} {v : Int32} (hd : decode M.2.1 pc = .ok (.arraylength, 1)) (hk : kd < 10) (hg : e_aL S kd a = some v) (K : X l D R M bc bs (pc + 1) lc (.int v :: st) (S, g) r h') : X l D R M bc bs pc lc (.ref a :: st) (S, g) r h' := X.alen hd hk hg K
theorem Y.inst {a idx ci : Nat} {nm : String} {v : Int32} (hd : decode M.2.1 pc = .ok (.instanceof idx, 3)) (hw : Cond.classLink M.1.cls idx nm ∈ e_big) (hci : ci < 12) (hn : (e_C ci).1 = nm) (hg : e_is S nm a = some v) (K : X l D R M bc bs (pc + 3) lc (.int v :: st) (S, g) r h') : X l D R M bc bs pc lc (.ref a :: st) (S, g) r h' := X.inst hd hw hci hn hg K
theorem Y.acopy {index a b : Nat} {sp dp n : Int32} (hd : decode M.2.1 pc = .ok (.invokestatic index, 3)) (hw : Cond.methodLink M.1.cls index arraycopyName ∈ e_big) (w1 : (Cond.native arraycopyName) ∈ e_big) (w2 : (Cond.static arraycopyName) ∈ e_big) (w3 : (Cond.initialized "java/lang/System") ∈ e_big) (hR : 1 ≤ R.frames ∧ 100 ≤ R.locals) (hst : (st.map fun v => v.category).sum ≤ 8) (hg : e_cpy S g a sp b dp n = some g1) (K : X l D R M bc bs (pc + 3) lc st (S, g1) r h') : X l D R M bc bs pc lc (.int n :: .int dp :: .ref b :: .int sp :: .ref a :: st) (S, g) r h' := X.acopy hd hw w1 w2 w3 hR hst hg K
theorem Y.callV {idx ci b : Nat} {M' : e_M} {R' : Room} {av : List Value} {r1 : Option Value} (hd : decode M.2.1 pc = .ok (.invokevirtual idx, 3)) (hc : CT l D R' M' (.ref b :: av) (S, g) r1 (S, g1)) (hw : ∀ w ∈ wsV M.1.cls idx (e_C ci).1 M'.1 [Cond.code M'.1 M'.2.1 M'.2.2.1 M'.2.2.2], w ∈ e_big) (hci : ci < 12) (hcl : M'.1.cls = (e_C ci).1) (hm : e_Mok M' av.length) (ho : e_ob S ci b = true) (hR : e_Rm R R' M'.2.2.1) (hz : R'.cells = 0 ∧ R'.slots = 0) (hst : (st.map fun v => v.category).sum ≤ 8)
    (K : X l D R M bc bs (pc + 3) lc (r1.toList ++ st) (S, g1) r h') : X l D R M bc bs pc lc (av.reverse ++ .ref b :: st) (S, g) r h' := X.callV hd hc hw hci hcl hm ho hR hz hst K
theorem Y.callS {idx : Nat} {M' : e_M} {R' : Room} {av : List Value} {r1 : Option Value} (hd : decode M.2.1 pc = .ok (.invokestatic idx, 3)) (hc : CT l D R' M' av (S, g) r1 (S, g1)) (hw : ∀ w ∈ va_wsS M.1.cls idx M'.1 [Cond.code M'.1 M'.2.1 M'.2.2.1 M'.2.2.2], w ∈ e_big) (hm : e_Mok M' av.length) (hR : e_Rm R R' M'.2.2.1) (hz : R'.cells = 0 ∧ R'.slots = 0) (hst : (st.map fun v => v.category).sum ≤ 8)
    (K : X l D R M bc bs (pc + 3) lc (r1.toList ++ st) (S, g1) r h') : X l D R M bc bs pc lc (av.reverse ++ st) (S, g) r h' := X.callS hd hc hw hm hR hz hst K
theorem Y.irem {x y : Int32} (hd : decode M.2.1 pc = .ok (.irem, 1)) (hne : ¬ y = 0) (K : X l D R M bc bs (pc + 1) lc (.int (i_rem x y) :: st) (S, g) r h') : X l D R M bc bs pc lc (.int y :: .int x :: st) (S, g) r h' := X.irem hd hne K
theorem Y.lrem {x y : Int64} (hd : decode M.2.1 pc = .ok (.lrem, 1)) (hne : ¬ y = 0) (K : X l D R M bc bs (pc + 1) lc (.long (l_rem x y) :: st) (S, g) r h') : X l D R M bc bs pc lc (.long y :: .long x :: st) (S, g) r h' := X.lrem hd hne K
theorem Y.iushr {x y : Int32} (hd : decode M.2.1 pc = .ok (.iushr, 1)) (K : X l D R M bc bs (pc + 1) lc (.int (i_ushr x y) :: st) (S, g) r h') : X l D R M bc bs pc lc (.int y :: .int x :: st) (S, g) r h' := X.iushr hd K
theorem CT.ofS {av : List Value} {r1 : Option Value} {n : Nat} {M : e_M} (hy : plainName M.1.cls = true) (hl : (lg_sl av).length ≤ M.2.2.1) (K : X l D (e_R n) M 0 0 0 (lv_args 0 av) [] (S, g) r1 (S, g1)) : CT l D (e_R n) M av (S, g) r1 (S, g1) := CT.of hy hl K
end E8
theorem dJ0_coder_7d493_0 : decode cJ0_coder_7d493 0 = .ok (.getstatic 38, 3) := by decide +kernel
theorem dJ0_coder_7d493_3 : decode cJ0_coder_7d493 3 = .ok (.ifCond .eq 10, 3) := by decide +kernel
theorem dJ0_coder_7d493_6 : decode cJ0_coder_7d493 6 = .ok (.aload_n 0, 1) := by decide +kernel
theorem dJ0_coder_7d493_7 : decode cJ0_coder_7d493 7 = .ok (.getfield 15, 3) := by decide +kernel
theorem dJ0_coder_7d493_10 : decode cJ0_coder_7d493 10 = .ok (.goto 4, 3) := by decide +kernel
theorem dJ0_coder_7d493_13 : decode cJ0_coder_7d493 13 = .ok (.iconst 1, 1) := by decide +kernel
theorem dJ0_coder_7d493_14 : decode cJ0_coder_7d493 14 = .ok (.ireturn, 1) := by decide +kernel
theorem dJ0_isLatin1_aae02_0 : decode cJ0_isLatin1_aae02 0 = .ok (.getstatic 38, 3) := by decide +kernel
theorem dJ0_isLatin1_aae02_3 : decode cJ0_isLatin1_aae02 3 = .ok (.ifCond .eq 14, 3) := by decide +kernel
theorem dJ0_isLatin1_aae02_6 : decode cJ0_isLatin1_aae02 6 = .ok (.aload_n 0, 1) := by decide +kernel
theorem dJ0_isLatin1_aae02_7 : decode cJ0_isLatin1_aae02 7 = .ok (.getfield 15, 3) := by decide +kernel
theorem dJ0_isLatin1_aae02_10 : decode cJ0_isLatin1_aae02 10 = .ok (.ifCond .ne 7, 3) := by decide +kernel
theorem dJ0_isLatin1_aae02_13 : decode cJ0_isLatin1_aae02 13 = .ok (.iconst 1, 1) := by decide +kernel
theorem dJ0_isLatin1_aae02_14 : decode cJ0_isLatin1_aae02 14 = .ok (.goto 4, 3) := by decide +kernel
theorem dJ0_isLatin1_aae02_17 : decode cJ0_isLatin1_aae02 17 = .ok (.iconst 0, 1) := by decide +kernel
theorem dJ0_isLatin1_aae02_18 : decode cJ0_isLatin1_aae02 18 = .ok (.ireturn, 1) := by decide +kernel
theorem dJ0_length_8abf5_0 : decode cJ0_length_8abf5 0 = .ok (.aload_n 0, 1) := by decide +kernel
theorem dJ0_length_8abf5_1 : decode cJ0_length_8abf5 1 = .ok (.getfield 9, 3) := by decide +kernel
theorem dJ0_length_8abf5_4 : decode cJ0_length_8abf5 4 = .ok (.arraylength, 1) := by decide +kernel
theorem dJ0_length_8abf5_5 : decode cJ0_length_8abf5 5 = .ok (.aload_n 0, 1) := by decide +kernel
theorem dJ0_length_8abf5_6 : decode cJ0_length_8abf5 6 = .ok (.invokevirtual 335, 3) := by decide +kernel
theorem dJ0_length_8abf5_9 : decode cJ0_length_8abf5 9 = .ok (.ishr, 1) := by decide +kernel
theorem dJ0_length_8abf5_10 : decode cJ0_length_8abf5 10 = .ok (.ireturn, 1) := by decide +kernel
theorem dJ3_checkIndex_8e157_0 : decode cJ3_checkIndex_8e157 0 = .ok (.iload_n 0, 1) := by decide +kernel
theorem dJ3_checkIndex_8e157_1 : decode cJ3_checkIndex_8e157 1 = .ok (.ifCond .lt 8, 3) := by decide +kernel
theorem dJ3_checkIndex_8e157_4 : decode cJ3_checkIndex_8e157 4 = .ok (.iload_n 0, 1) := by decide +kernel
theorem dJ3_checkIndex_8e157_5 : decode cJ3_checkIndex_8e157 5 = .ok (.iload_n 1, 1) := by decide +kernel
theorem dJ3_checkIndex_8e157_6 : decode cJ3_checkIndex_8e157 6 = .ok (.if_icmp .lt 10, 3) := by decide +kernel
theorem dJ3_checkIndex_8e157_16 : decode cJ3_checkIndex_8e157 16 = .ok (.iload_n 0, 1) := by decide +kernel
theorem dJ3_checkIndex_8e157_17 : decode cJ3_checkIndex_8e157 17 = .ok (.ireturn, 1) := by decide +kernel
theorem dJ0_checkIndex_df160_0 : decode cJ0_checkIndex_df160 0 = .ok (.iload_n 0, 1) := by decide +kernel
theorem dJ0_checkIndex_df160_1 : decode cJ0_checkIndex_df160 1 = .ok (.iload_n 1, 1) := by decide +kernel
theorem dJ0_checkIndex_df160_2 : decode cJ0_checkIndex_df160 2 = .ok (.getstatic 1053, 3) := by decide +kernel
theorem dJ0_checkIndex_df160_5 : decode cJ0_checkIndex_df160 5 = .ok (.invokestatic 1059, 3) := by decide +kernel
theorem dJ0_checkIndex_df160_8 : decode cJ0_checkIndex_df160 8 = .ok (.pop, 1) := by decide +kernel
theorem dJ0_checkIndex_df160_9 : decode cJ0_checkIndex_df160 9 = .ok (.return_, 1) := by decide +kernel
theorem dJ1_charAt_3b067_0 : decode cJ1_charAt_3b067 0 = .ok (.iload_n 1, 1) := by decide +kernel
theorem dJ1_charAt_3b067_1 : decode cJ1_charAt_3b067 1 = .ok (.aload_n 0, 1) := by decide +kernel
theorem dJ1_charAt_3b067_2 : decode cJ1_charAt_3b067 2 = .ok (.arraylength, 1) := by decide +kernel
theorem dJ1_charAt_3b067_3 : decode cJ1_charAt_3b067 3 = .ok (.invokestatic 9, 3) := by decide +kernel
theorem dJ1_charAt_3b067_6 : decode cJ1_charAt_3b067 6 = .ok (.aload_n 0, 1) := by decide +kernel
theorem dJ1_charAt_3b067_7 : decode cJ1_charAt_3b067 7 = .ok (.iload_n 1, 1) := by decide +kernel
theorem dJ1_charAt_3b067_8 : decode cJ1_charAt_3b067 8 = .ok (.baload, 1) := by decide +kernel
theorem dJ1_charAt_3b067_9 : decode cJ1_charAt_3b067 9 = .ok (.sipush 255, 3) := by decide +kernel
theorem dJ1_charAt_3b067_12 : decode cJ1_charAt_3b067 12 = .ok (.iand, 1) := by decide +kernel
theorem dJ1_charAt_3b067_13 : decode cJ1_charAt_3b067 13 = .ok (.i2c, 1) := by decide +kernel
theorem dJ1_charAt_3b067_14 : decode cJ1_charAt_3b067 14 = .ok (.ireturn, 1) := by decide +kernel
theorem dJ0_charAt_5068e_0 : decode cJ0_charAt_5068e 0 = .ok (.aload_n 0, 1) := by decide +kernel
theorem dJ0_charAt_5068e_1 : decode cJ0_charAt_5068e 1 = .ok (.invokevirtual 492, 3) := by decide +kernel
theorem dJ0_charAt_5068e_4 : decode cJ0_charAt_5068e 4 = .ok (.ifCond .eq 12, 3) := by decide +kernel
theorem dJ0_charAt_5068e_7 : decode cJ0_charAt_5068e 7 = .ok (.aload_n 0, 1) := by decide +kernel
theorem dJ0_charAt_5068e_8 : decode cJ0_charAt_5068e 8 = .ok (.getfield 9, 3) := by decide +kernel
theorem dJ0_charAt_5068e_11 : decode cJ0_charAt_5068e 11 = .ok (.iload_n 1, 1) := by decide +kernel
theorem dJ0_charAt_5068e_12 : decode cJ0_charAt_5068e 12 = .ok (.invokestatic 495, 3) := by decide +kernel
theorem dJ0_charAt_5068e_15 : decode cJ0_charAt_5068e 15 = .ok (.ireturn, 1) := by decide +kernel
theorem jf_9 : Cond.fieldLink RJ0 9 "java/lang/String" "value" "[B" ∈ e_big := bw (i := 1377) (by decide +kernel) rfl
theorem jf_15 : Cond.fieldLink RJ0 15 "java/lang/String" "coder" "B" ∈ e_big := bw (i := 1378) (by decide +kernel) rfl
theorem jf_38 : Cond.fieldLink RJ0 38 "java/lang/String" "COMPACT_STRINGS" "Z" ∈ e_big := bw (i := 280) (by decide +kernel) rfl
theorem jf_1053 : Cond.fieldLink RJ0 1053 "jdk/internal/util/Preconditions" "SIOOBE_FORMATTER" "Ljava/util/function/BiFunction;" ∈ e_big := bw (i := 296) (by decide +kernel) rfl
theorem kI_1 : Int32.ofInt (1) = (1 : Int32) := by decide +kernel
theorem kI_0 : Int32.ofInt (0) = (0 : Int32) := by decide +kernel
theorem kS_255 : (Int16.ofInt (255)).toInt32 = (255 : Int32) := by decide +kernel
theorem ww_276 : Cond.methodLink RJ0 335 yJ0_coder_7d493 ∈ e_big := bw (i := 276) (by decide +kernel) rfl
theorem ww_277 : Cond.instanceMethod yJ0_coder_7d493 ∈ e_big := bw (i := 277) (by decide +kernel) rfl
theorem ww_278 : Cond.selects RJ0 yJ0_coder_7d493 yJ0_coder_7d493 ∈ e_big := bw (i := 278) (by decide +kernel) rfl
theorem ww_84 : Cond.initialized RJ0 ∈ e_big := bw (i := 84) (by decide +kernel) rfl
theorem ww_279 : Cond.code yJ0_coder_7d493 cJ0_coder_7d493 1 (some .byte) ∈ e_big := bw (i := 279) (by decide +kernel) rfl
theorem cw_J0_335 : ∀ w ∈ wsV RJ0 335 RJ0 yJ0_coder_7d493 [Cond.code yJ0_coder_7d493 cJ0_coder_7d493 1 (some .byte)], w ∈ e_big := e_all5 ww_276 ww_277 ww_278 ww_84 ww_279
theorem ww_286 : Cond.methodLink RJ0 492 yJ0_isLatin1_aae02 ∈ e_big := bw (i := 286) (by decide +kernel) rfl
theorem ww_287 : Cond.instanceMethod yJ0_isLatin1_aae02 ∈ e_big := bw (i := 287) (by decide +kernel) rfl
theorem ww_288 : Cond.selects RJ0 yJ0_isLatin1_aae02 yJ0_isLatin1_aae02 ∈ e_big := bw (i := 288) (by decide +kernel) rfl
theorem ww_289 : Cond.code yJ0_isLatin1_aae02 cJ0_isLatin1_aae02 1 (some .boolean) ∈ e_big := bw (i := 289) (by decide +kernel) rfl
theorem cw_J0_492 : ∀ w ∈ wsV RJ0 492 RJ0 yJ0_isLatin1_aae02 [Cond.code yJ0_isLatin1_aae02 cJ0_isLatin1_aae02 1 (some .boolean)], w ∈ e_big := e_all5 ww_286 ww_287 ww_288 ww_84 ww_289
theorem ww_290 : Cond.methodLink RJ0 495 yJ1_charAt_3b067 ∈ e_big := bw (i := 290) (by decide +kernel) rfl
theorem ww_291 : Cond.static yJ1_charAt_3b067 ∈ e_big := bw (i := 291) (by decide +kernel) rfl
theorem ww_85 : Cond.initialized RJ1 ∈ e_big := bw (i := 85) (by decide +kernel) rfl
theorem ww_292 : Cond.code yJ1_charAt_3b067 cJ1_charAt_3b067 2 (some .char) ∈ e_big := bw (i := 292) (by decide +kernel) rfl
theorem cw_J0_495 : ∀ w ∈ va_wsS RJ0 495 yJ1_charAt_3b067 [Cond.code yJ1_charAt_3b067 cJ1_charAt_3b067 2 (some .char)], w ∈ e_big := e_all4 ww_290 ww_291 ww_85 ww_292
theorem ww_293 : Cond.methodLink RJ1 9 yJ0_checkIndex_df160 ∈ e_big := bw (i := 293) (by decide +kernel) rfl
theorem ww_294 : Cond.static yJ0_checkIndex_df160 ∈ e_big := bw (i := 294) (by decide +kernel) rfl
theorem ww_295 : Cond.code yJ0_checkIndex_df160 cJ0_checkIndex_df160 2 none ∈ e_big := bw (i := 295) (by decide +kernel) rfl
theorem cw_J1_9 : ∀ w ∈ va_wsS RJ1 9 yJ0_checkIndex_df160 [Cond.code yJ0_checkIndex_df160 cJ0_checkIndex_df160 2 none], w ∈ e_big := e_all4 ww_293 ww_294 ww_84 ww_295
theorem ww_298 : Cond.methodLink RJ0 1059 yJ3_checkIndex_8e157 ∈ e_big := bw (i := 298) (by decide +kernel) rfl
theorem ww_299 : Cond.static yJ3_checkIndex_8e157 ∈ e_big := bw (i := 299) (by decide +kernel) rfl
theorem ww_86 : Cond.initialized RJ3 ∈ e_big := bw (i := 86) (by decide +kernel) rfl
theorem ww_300 : Cond.code yJ3_checkIndex_8e157 cJ3_checkIndex_8e157 3 (some .int) ∈ e_big := bw (i := 300) (by decide +kernel) rfl
theorem cw_J0_1059 : ∀ w ∈ va_wsS RJ0 1059 yJ3_checkIndex_8e157 [Cond.code yJ3_checkIndex_8e157 cJ3_checkIndex_8e157 3 (some .int)], w ∈ e_big := e_all4 ww_298 ww_299 ww_86 ww_300
theorem c_str_coder {l : Launch} {D : va_G} {S : e_S} {g : e_G} {i : Nat} (hi : i < e_nS) : CT l D (e_R 1) M_String_coder [.ref (1000000 + i)] (S, g) (some (.int 0)) (S, g) := by
  refine CT.ofS (by decide +kernel) (Nat.le_of_ble_eq_true rfl) ?_
  show X l D (e_R 1) M_String_coder 0 0 0 [(0, .ref (1000000 + i))] [] (S, g) _ (S, g)
  refine X.gCompact dJ0_coder_7d493_0 jf_38 ?_
  refine X.if_eq dJ0_coder_7d493_3 (tgt := 13) rfl (fun hc => absurd hc (by decide)) (fun _ => ?_)
  refine X.aload_n dJ0_coder_7d493_6 rfl (j := 0) rfl ?_
  refine X.strCod dJ0_coder_7d493_7 jf_15 hi ?_
  refine X.goto dJ0_coder_7d493_10 (tgt := 14) rfl ?_
  exact X.iret dJ0_coder_7d493_14 rfl rfl
theorem c_str_isLatin1 {l : Launch} {D : va_G} {S : e_S} {g : e_G} {i : Nat} (hi : i < e_nS) : CT l D (e_R 1) M_String_isLatin1 [.ref (1000000 + i)] (S, g) (some (.int 1)) (S, g) := by
  refine CT.ofS (by decide +kernel) (Nat.le_of_ble_eq_true rfl) ?_
  show X l D (e_R 1) M_String_isLatin1 0 0 0 [(0, .ref (1000000 + i))] [] (S, g) _ (S, g)
  refine X.gCompact dJ0_isLatin1_aae02_0 jf_38 ?_
  refine X.if_eq dJ0_isLatin1_aae02_3 (tgt := 17) rfl (fun hc => absurd hc (by decide)) (fun _ => ?_)
  refine X.aload_n dJ0_isLatin1_aae02_6 rfl (j := 0) rfl ?_
  refine X.strCod dJ0_isLatin1_aae02_7 jf_15 hi ?_
  refine X.if_ne dJ0_isLatin1_aae02_10 (tgt := 17) rfl (fun hc => absurd rfl hc) (fun _ => ?_)
  refine X.iconst dJ0_isLatin1_aae02_13 kI_1 ?_
  refine X.goto dJ0_isLatin1_aae02_14 (tgt := 18) rfl ?_
  exact X.iret dJ0_isLatin1_aae02_18 rfl rfl
theorem mk_coder : e_Mok M_String_coder 0 := ⟨by decide +kernel, by decide +kernel, by decide +kernel⟩
theorem mk_isLatin1 : e_Mok M_String_isLatin1 0 := ⟨by decide +kernel, by decide +kernel, by decide +kernel⟩
theorem mk_str_length : e_Mok M_String_length 0 := ⟨by decide +kernel, by decide +kernel, by decide +kernel⟩
theorem mk_str_charAt : e_Mok M_String_charAt 1 := ⟨by decide +kernel, by decide +kernel, by decide +kernel⟩
theorem mk_checkIndex : e_Mok M_String_checkIndex 2 := ⟨by decide +kernel, by decide +kernel, by decide +kernel⟩
theorem mk_preIndex : e_Mok M_Pre_checkIndex 3 := ⟨by decide +kernel, by decide +kernel, by decide +kernel⟩
theorem mk_latCharAt : e_Mok M_Latin1_charAt 2 := ⟨by decide +kernel, by decide +kernel, by decide +kernel⟩
theorem e_shr0 (x : Int32) : x >>> ((0 : Int32) &&& 31) = x := by
  have : ((0 : Int32) &&& 31) = 0 := by decide
  rw [this]
  exact Int32.shiftRight_zero
theorem c_str_length {l : Launch} {D : va_G} {S : e_S} {g : e_G} {r : Nat} {w : Int32} (hf : f_str_length r = some w) : CT l D (e_R 2) M_String_length [.ref r] (S, g) (some (.int w)) (S, g) := by
  unfold f_str_length at hf
  split at hf
  next hr =>
    obtain ⟨i, rfl⟩ : ∃ i, r = 1000000 + i := ⟨r - 1000000, by omega⟩
    rw [show 1000000 + i - 1000000 = i by omega] at hf hr
    cases hf
    refine CT.ofS (by decide +kernel) (Nat.le_of_ble_eq_true rfl) ?_
    show X l D (e_R 2) M_String_length 0 0 0 [(0, .ref (1000000 + i))] [] (S, g) _ (S, g)
    refine X.aload_n dJ0_length_8abf5_0 rfl (j := 0) rfl ?_
    refine X.strVal dJ0_length_8abf5_1 jf_9 hr.2 ?_
    refine X.strLen dJ0_length_8abf5_4 hr.2 rfl ?_
    refine X.aload_n dJ0_length_8abf5_5 rfl (j := 0) rfl ?_
    refine X.callVS (av := []) dJ0_length_8abf5_6 (c_str_coder hr.2) cw_J0_335 hr.2 rfl mk_coder (e_R_ok (Nat.le_of_ble_eq_true rfl) (Nat.le_of_ble_eq_true rfl)) ⟨rfl, rfl⟩ (by simp [Value.category]) ?_
    refine X.ishr dJ0_length_8abf5_9 ?_
    rw [e_shr0]
    exact X.iret dJ0_length_8abf5_10 rfl rfl
  next => cases hf
theorem c_preIndex {l : Launch} {D : va_G} {S : e_S} {g : e_G} {i n : Int32} (h0 : 0 ≤ i) (hn : i < n) : CT l D (e_R 1) M_Pre_checkIndex [.int i, .int n, .retAddr 0] (S, g) (some (.int i)) (S, g) := by
  refine CT.ofS (by decide +kernel) (Nat.le_of_ble_eq_true rfl) ?_
  show X l D (e_R 1) M_Pre_checkIndex 0 0 0 [(0, .int i), (1, .int n), (2, .retAddr 0)] [] (S, g) _ (S, g)
  refine X.iload_n dJ3_checkIndex_8e157_0 rfl (j := 0) rfl ?_
  refine X.if_lt dJ3_checkIndex_8e157_1 (tgt := 9) rfl (fun hc => absurd hc (Int32.not_lt.mpr h0)) (fun _ => ?_)
  refine X.iload_n dJ3_checkIndex_8e157_4 rfl (j := 0) rfl ?_
  refine X.iload_n dJ3_checkIndex_8e157_5 rfl (j := 1) rfl ?_
  refine X.icmp_lt dJ3_checkIndex_8e157_6 (tgt := 16) rfl (fun _ => ?_) (fun hc => absurd hn hc)
  refine X.iload_n dJ3_checkIndex_8e157_16 rfl (j := 0) rfl ?_
  exact X.iret dJ3_checkIndex_8e157_17 rfl rfl
theorem c_checkIndex {l : Launch} {D : va_G} {S : e_S} {g : e_G} {i n : Int32} (h0 : 0 ≤ i) (hn : i < n) : CT l D (e_R 2) M_String_checkIndex [.int i, .int n] (S, g) none (S, g) := by
  refine CT.ofS (by decide +kernel) (Nat.le_of_ble_eq_true rfl) ?_
  show X l D (e_R 2) M_String_checkIndex 0 0 0 [(0, .int i), (1, .int n)] [] (S, g) _ (S, g)
  refine X.iload_n dJ0_checkIndex_df160_0 rfl (j := 0) rfl ?_
  refine X.iload_n dJ0_checkIndex_df160_1 rfl (j := 1) rfl ?_
  refine X.gFmt dJ0_checkIndex_df160_2 jf_1053 ?_
  refine X.callS (h := (S, g)) (av := [.int i, .int n, .retAddr 0]) dJ0_checkIndex_df160_5 (c_preIndex h0 hn) cw_J0_1059 mk_preIndex (e_R_ok (Nat.le_of_ble_eq_true rfl) (Nat.le_of_ble_eq_true rfl)) ⟨rfl, rfl⟩ (by simp [Value.category]) ?_
  refine X.pop dJ0_checkIndex_df160_8 rfl ?_
  exact X.vret dJ0_checkIndex_df160_9 rfl
theorem e_getD_mem (l : List Int32) {k : Nat} (h : k < l.length) : l.getD k 0 ∈ l := by
  rw [List.getD_eq_getElem?_getD, List.getElem?_eq_getElem h]
  exact List.getElem_mem _
theorem e_bytes : ∀ i, i < e_nS → e_len.getD i 0 = (e_byt.getD i []).length ∧ (e_byt.getD i []).length < 100 ∧ ∀ b ∈ e_byt.getD i [], ((b &&& 255).toUInt32 % 65536).toInt32 = b ∧ narrow .char (.int b) = .int b := by decide +kernel
theorem c_latCharAt {l : Launch} {D : va_G} {S : e_S} {g : e_G} {i : Nat} {j : Int32} (hi : i < e_nS) (hj : vp_in j (e_len.getD i 0)) : CT l D (e_R 3) M_Latin1_charAt [.ref (2000000 + i), .int j] (S, g) (some (.int ((e_byt.getD i []).getD j.toNatClampNeg 0))) (S, g) := by
  obtain ⟨e1, e2, e3⟩ := e_bytes i hi
  obtain ⟨k, hk, rfl⟩ := vp_in_of hj (by omega)
  refine CT.ofS (by decide +kernel) (Nat.le_of_ble_eq_true rfl) ?_
  show X l D (e_R 3) M_Latin1_charAt 0 0 0 [(0, .ref (2000000 + i)), (1, .int (nI k))] [] (S, g) _ (S, g)
  refine X.iload_n dJ1_charAt_3b067_0 rfl (j := 1) rfl ?_
  refine X.aload_n dJ1_charAt_3b067_1 rfl (j := 0) rfl ?_
  refine X.strLen dJ1_charAt_3b067_2 hi rfl ?_
  refine X.callS (h := (S, g)) (av := [.int (nI k), .int (Int32.ofNat (e_len.getD i 0))]) dJ1_charAt_3b067_3 (c_checkIndex (nI_pos' (by omega)) (nI_lt hk (by omega))) cw_J1_9 mk_checkIndex (e_R_ok (Nat.le_of_ble_eq_true rfl) (Nat.le_of_ble_eq_true rfl)) ⟨rfl, rfl⟩ (by simp [Value.category]) ?_
  refine X.aload_n dJ1_charAt_3b067_6 rfl (j := 0) rfl ?_
  refine X.iload_n dJ1_charAt_3b067_7 rfl (j := 1) rfl ?_
  refine X.strB dJ1_charAt_3b067_8 hi hj rfl ?_
  refine X.sipush dJ1_charAt_3b067_9 kS_255 ?_
  refine X.iand dJ1_charAt_3b067_12 ?_
  refine X.i2c dJ1_charAt_3b067_13 ?_
  rw [nI_clamp (by omega)]
  have hb := e_getD_mem (e_byt.getD i []) (k := k) (by omega)
  rw [(e3 _ hb).1]
  exact X.iret dJ1_charAt_3b067_14 rfl (e3 _ hb).2
theorem c_str_charAt {l : Launch} {D : va_G} {S : e_S} {g : e_G} {r : Nat} {j w : Int32} (hf : f_str_charAt r j = some w) : CT l D (e_R 4) M_String_charAt [.ref r, .int j] (S, g) (some (.int w)) (S, g) := by
  unfold f_str_charAt at hf
  split at hf
  next hr =>
    obtain ⟨hr, hj⟩ := hr
    obtain ⟨i, rfl⟩ : ∃ i, r = 1000000 + i := ⟨r - 1000000, by omega⟩
    rw [show 1000000 + i - 1000000 = i by omega] at hf hr hj
    cases hf
    refine CT.ofS (by decide +kernel) (Nat.le_of_ble_eq_true rfl) ?_
    show X l D (e_R 4) M_String_charAt 0 0 0 [(0, .ref (1000000 + i)), (1, .int j)] [] (S, g) _ (S, g)
    refine X.aload_n dJ0_charAt_5068e_0 rfl (j := 0) rfl ?_
    refine X.callVS (av := []) dJ0_charAt_5068e_1 (c_str_isLatin1 hr.2) cw_J0_492 hr.2 rfl mk_isLatin1 (e_R_ok (Nat.le_of_ble_eq_true rfl) (Nat.le_of_ble_eq_true rfl)) ⟨rfl, rfl⟩ (by simp [Value.category]) ?_
    refine X.if_eq dJ0_charAt_5068e_4 (tgt := 16) rfl (fun hc => absurd hc (by decide)) (fun _ => ?_)
    refine X.aload_n dJ0_charAt_5068e_7 rfl (j := 0) rfl ?_
    refine X.strVal dJ0_charAt_5068e_8 jf_9 hr.2 ?_
    refine X.iload_n dJ0_charAt_5068e_11 rfl (j := 1) rfl ?_
    refine X.callS (h := (S, g)) (av := [.ref (2000000 + i), .int j]) dJ0_charAt_5068e_12 (c_latCharAt hr.2 (e_in_iff.mp hj)) cw_J0_495 mk_latCharAt (e_R_ok (Nat.le_of_ble_eq_true rfl) (Nat.le_of_ble_eq_true rfl)) ⟨rfl, rfl⟩ (by simp [Value.category]) ?_
    obtain ⟨e1, e2, e3⟩ := e_bytes i hr.2
    obtain ⟨k, hk, rfl⟩ := vp_in_of (e_in_iff.mp hj) (by omega)
    rw [nI_clamp (by omega)]
    have hb := e_getD_mem (e_byt.getD i []) (k := k) (by omega)
    exact X.iret dJ0_charAt_5068e_15 rfl (e3 _ hb).2
  next => cases hf
section E9
variable {l : Launch} {D : va_G} {n mc ms : Nat} {M : e_M} {bc bs pc : Nat} {lc : List (Nat × Value)} {st : List Value} {S : e_S} {g g1 : e_G} {r : Option Value} {h' : e_H}
theorem Y.str_length {idx a : Nat} {v : Int32} (hd : decode M.2.1 pc = .ok (.invokevirtual idx, 3)) (hw : ∀ w ∈ wsV M.1.cls idx "java/lang/String" yJ0_length_8abf5 [Cond.code yJ0_length_8abf5 cJ0_length_8abf5 1 (some .int)], w ∈ e_big) (hn : 3 ≤ n) (hst : (st.map fun v => v.category).sum ≤ 8) (hg : f_str_length a = some v) (K : X l D (e_RR n mc ms) M bc bs (pc + 3) lc (.int v :: st) (S, g) r h') : X l D (e_RR n mc ms) M bc bs pc lc (.ref a :: st) (S, g) r h' := by
  have hc := c_str_length (l := l) (D := D) (S := S) (g := g) hg
  unfold f_str_length at hg
  split at hg
  next hr =>
    obtain ⟨i, rfl⟩ : ∃ i, a = 1000000 + i := ⟨a - 1000000, by omega⟩
    exact X.callVS (h := (S, g)) (av := []) hd hc hw (by omega) rfl mk_str_length (e_R_ok (by omega) (Nat.le_of_ble_eq_true rfl)) ⟨rfl, rfl⟩ hst K
  next => cases hg
theorem Y.str_charAt {idx a : Nat} {i v : Int32} (hd : decode M.2.1 pc = .ok (.invokevirtual idx, 3)) (hw : ∀ w ∈ wsV M.1.cls idx "java/lang/String" yJ0_charAt_5068e [Cond.code yJ0_charAt_5068e cJ0_charAt_5068e 2 (some .char)], w ∈ e_big) (hn : 5 ≤ n) (hst : (st.map fun v => v.category).sum ≤ 8) (hg : f_str_charAt a i = some v) (K : X l D (e_RR n mc ms) M bc bs (pc + 3) lc (.int v :: st) (S, g) r h') : X l D (e_RR n mc ms) M bc bs pc lc (.int i :: .ref a :: st) (S, g) r h' := by
  have hc := c_str_charAt (l := l) (D := D) (S := S) (g := g) hg
  unfold f_str_charAt at hg
  split at hg
  next hr =>
    obtain ⟨i2, rfl⟩ : ∃ i, a = 1000000 + i := ⟨a - 1000000, by omega⟩
    exact X.callVS (h := (S, g)) (av := [.int i]) hd hc hw (by omega) rfl mk_str_charAt (e_R_ok (by omega) (Nat.le_of_ble_eq_true rfl)) ⟨rfl, rfl⟩ hst K
  next => cases hg
theorem Y.mmax {index : Nat} {x y : Int32} (hd : decode M.2.1 pc = .ok (.invokestatic index, 3)) (hw : Cond.methodLink M.1.cls index yJ9_max_7cf53 ∈ e_big) (w2 : (Cond.static yJ9_max_7cf53) ∈ e_big) (w3 : (Cond.initialized RJ9) ∈ e_big) (w4 : Cond.code yJ9_max_7cf53 cJ9_max_7cf53 2 (some .int) ∈ e_big) (hR : 1 ≤ (e_RR n mc ms).frames ∧ 21 ≤ (e_RR n mc ms).locals) (hst : (st.map fun v => v.category).sum ≤ 8) (K : X l D (e_RR n mc ms) M bc bs (pc + 3) lc (.int (i_max x y) :: st) (S, g) r h') : X l D (e_RR n mc ms) M bc bs pc lc (.int y :: .int x :: st) (S, g) r h' := X.mmax hd hw w2 w3 w4 hR hst K
theorem Y.mmin {index : Nat} {x y : Int32} (hd : decode M.2.1 pc = .ok (.invokestatic index, 3)) (hw : Cond.methodLink M.1.cls index yJ9_min_7cf53 ∈ e_big) (w2 : (Cond.static yJ9_min_7cf53) ∈ e_big) (w3 : (Cond.initialized RJ9) ∈ e_big) (w4 : Cond.code yJ9_min_7cf53 cJ9_min_7cf53 2 (some .int) ∈ e_big) (hR : 1 ≤ (e_RR n mc ms).frames ∧ 21 ≤ (e_RR n mc ms).locals) (hst : (st.map fun v => v.category).sum ≤ 8) (K : X l D (e_RR n mc ms) M bc bs (pc + 3) lc (.int (i_min x y) :: st) (S, g) r h') : X l D (e_RR n mc ms) M bc bs pc lc (.int y :: .int x :: st) (S, g) r h' := X.mmin hd hw w2 w3 w4 hR hst K
theorem Y.mabs {index : Nat} {x : Int32} (hd : decode M.2.1 pc = .ok (.invokestatic index, 3)) (hw : Cond.methodLink M.1.cls index yJ9_abs_0f7a4 ∈ e_big) (w2 : (Cond.static yJ9_abs_0f7a4) ∈ e_big) (w3 : (Cond.initialized RJ9) ∈ e_big) (w4 : Cond.code yJ9_abs_0f7a4 cJ9_abs_0f7a4 1 (some .int) ∈ e_big) (hR : 1 ≤ (e_RR n mc ms).frames ∧ 21 ≤ (e_RR n mc ms).locals) (hst : (st.map fun v => v.category).sum ≤ 8) (K : X l D (e_RR n mc ms) M bc bs (pc + 3) lc (.int (i_abs x) :: st) (S, g) r h') : X l D (e_RR n mc ms) M bc bs pc lc (.int x :: st) (S, g) r h' := X.mabs hd hw w2 w3 w4 hR hst K
end E9
