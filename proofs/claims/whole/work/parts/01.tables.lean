-- ===== PART A: goes FIRST, ahead of the names: the tables' words, and 'selects' of the private methods out of them =====
/-- a private method of a class that the tables say can be made, by its rows of tables_1 -/
def lw_okq (q : MethodName × Nat) : Prop := (q.1.cls ≠ "java/lang/invoke/MethodHandle" ∧ q.1.cls ≠ "java/lang/invoke/VarHandle") ∧ Cond.instantiable q.1.cls q.2 ∈ tables_1 ∧ Cond.privateMethod q.1 ∈ tables_1 ∧ Cond.instanceMethod q.1 ∈ tables_1
theorem lw_p0 : lw_okq (⟨"LeanedOut$Reader", "step", "()V"⟩, 8) := ⟨⟨by decide +kernel, by decide +kernel⟩, List.mem_of_getElem? (i := 33) (by decide +kernel), List.mem_of_getElem? (i := 260) (by decide +kernel), List.mem_of_getElem? (i := 261) (by decide +kernel)⟩
theorem lw_p1 : lw_okq (⟨"LeanedOut$Reader", "takeWord", "()V"⟩, 8) := ⟨⟨by decide +kernel, by decide +kernel⟩, List.mem_of_getElem? (i := 33) (by decide +kernel), List.mem_of_getElem? (i := 267) (by decide +kernel), List.mem_of_getElem? (i := 268) (by decide +kernel)⟩
theorem lw_p2 : lw_okq (⟨"LeanedOut$Reader", "nameNumber", "()I"⟩, 8) := ⟨⟨by decide +kernel, by decide +kernel⟩, List.mem_of_getElem? (i := 33) (by decide +kernel), List.mem_of_getElem? (i := 271) (by decide +kernel), List.mem_of_getElem? (i := 272) (by decide +kernel)⟩
theorem lw_p3 : lw_okq (⟨"LeanedOut$Reader", "spells", "(Ljava/lang/String;)Z"⟩, 8) := ⟨⟨by decide +kernel, by decide +kernel⟩, List.mem_of_getElem? (i := 33) (by decide +kernel), List.mem_of_getElem? (i := 276) (by decide +kernel), List.mem_of_getElem? (i := 277) (by decide +kernel)⟩
theorem lw_p4 : lw_okq (⟨"LeanedOut$Reader", "keyToken", "()I"⟩, 8) := ⟨⟨by decide +kernel, by decide +kernel⟩, List.mem_of_getElem? (i := 33) (by decide +kernel), List.mem_of_getElem? (i := 287) (by decide +kernel), List.mem_of_getElem? (i := 288) (by decide +kernel)⟩
theorem lw_p5 : lw_okq (⟨"LeanedOut$Reader", "takeNumber", "()V"⟩, 8) := ⟨⟨by decide +kernel, by decide +kernel⟩, List.mem_of_getElem? (i := 33) (by decide +kernel), List.mem_of_getElem? (i := 300) (by decide +kernel), List.mem_of_getElem? (i := 301) (by decide +kernel)⟩
theorem lw_p6 : lw_okq (⟨"LeanedOut$Reader", "expect", "(I)V"⟩, 8) := ⟨⟨by decide +kernel, by decide +kernel⟩, List.mem_of_getElem? (i := 33) (by decide +kernel), List.mem_of_getElem? (i := 307) (by decide +kernel), List.mem_of_getElem? (i := 308) (by decide +kernel)⟩
theorem lw_p7 : lw_okq (⟨"LeanedOut$Reader", "fail", "()V"⟩, 8) := ⟨⟨by decide +kernel, by decide +kernel⟩, List.mem_of_getElem? (i := 33) (by decide +kernel), List.mem_of_getElem? (i := 311) (by decide +kernel), List.mem_of_getElem? (i := 312) (by decide +kernel)⟩
theorem lw_p8 : lw_okq (⟨"LeanedOut$Reader", "readOr", "(I)V"⟩, 8) := ⟨⟨by decide +kernel, by decide +kernel⟩, List.mem_of_getElem? (i := 33) (by decide +kernel), List.mem_of_getElem? (i := 315) (by decide +kernel), List.mem_of_getElem? (i := 316) (by decide +kernel)⟩
theorem lw_p9 : lw_okq (⟨"LeanedOut$Reader", "readAnd", "(I)V"⟩, 8) := ⟨⟨by decide +kernel, by decide +kernel⟩, List.mem_of_getElem? (i := 33) (by decide +kernel), List.mem_of_getElem? (i := 319) (by decide +kernel), List.mem_of_getElem? (i := 320) (by decide +kernel)⟩
theorem lw_p10 : lw_okq (⟨"LeanedOut$Reader", "readNot", "(I)V"⟩, 8) := ⟨⟨by decide +kernel, by decide +kernel⟩, List.mem_of_getElem? (i := 33) (by decide +kernel), List.mem_of_getElem? (i := 323) (by decide +kernel), List.mem_of_getElem? (i := 324) (by decide +kernel)⟩
theorem lw_p11 : lw_okq (⟨"LeanedOut$Reader", "readSum", "(I)V"⟩, 8) := ⟨⟨by decide +kernel, by decide +kernel⟩, List.mem_of_getElem? (i := 33) (by decide +kernel), List.mem_of_getElem? (i := 331) (by decide +kernel), List.mem_of_getElem? (i := 332) (by decide +kernel)⟩
theorem lw_p12 : lw_okq (⟨"LeanedOut$Reader", "readTerm", "(I)V"⟩, 8) := ⟨⟨by decide +kernel, by decide +kernel⟩, List.mem_of_getElem? (i := 33) (by decide +kernel), List.mem_of_getElem? (i := 335) (by decide +kernel), List.mem_of_getElem? (i := 336) (by decide +kernel)⟩
theorem lw_p13 : lw_okq (⟨"LeanedOut$Reader", "readOne", "(I)V"⟩, 8) := ⟨⟨by decide +kernel, by decide +kernel⟩, List.mem_of_getElem? (i := 33) (by decide +kernel), List.mem_of_getElem? (i := 339) (by decide +kernel), List.mem_of_getElem? (i := 340) (by decide +kernel)⟩
theorem lw_p14 : lw_okq (⟨"LeanedOut", "feedOne", "(I)V"⟩, 12) := ⟨⟨by decide +kernel, by decide +kernel⟩, List.mem_of_getElem? (i := 21) (by decide +kernel), List.mem_of_getElem? (i := 410) (by decide +kernel), List.mem_of_getElem? (i := 411) (by decide +kernel)⟩
theorem lw_p15 : lw_okq (⟨"LeanedOut$Street", "fillNames", "(I)V"⟩, 12) := ⟨⟨by decide +kernel, by decide +kernel⟩, List.mem_of_getElem? (i := 147) (by decide +kernel), List.mem_of_getElem? (i := 434) (by decide +kernel), List.mem_of_getElem? (i := 435) (by decide +kernel)⟩
def lw_privs_1 : List (MethodName × Nat) := [(⟨"LeanedOut$Reader", "step", "()V"⟩, 8), (⟨"LeanedOut$Reader", "takeWord", "()V"⟩, 8), (⟨"LeanedOut$Reader", "nameNumber", "()I"⟩, 8), (⟨"LeanedOut$Reader", "spells", "(Ljava/lang/String;)Z"⟩, 8), (⟨"LeanedOut$Reader", "keyToken", "()I"⟩, 8), (⟨"LeanedOut$Reader", "takeNumber", "()V"⟩, 8), (⟨"LeanedOut$Reader", "expect", "(I)V"⟩, 8), (⟨"LeanedOut$Reader", "fail", "()V"⟩, 8), (⟨"LeanedOut$Reader", "readOr", "(I)V"⟩, 8), (⟨"LeanedOut$Reader", "readAnd", "(I)V"⟩, 8), (⟨"LeanedOut$Reader", "readNot", "(I)V"⟩, 8), (⟨"LeanedOut$Reader", "readSum", "(I)V"⟩, 8), (⟨"LeanedOut$Reader", "readTerm", "(I)V"⟩, 8), (⟨"LeanedOut$Reader", "readOne", "(I)V"⟩, 8), (⟨"LeanedOut", "feedOne", "(I)V"⟩, 12), (⟨"LeanedOut$Street", "fillNames", "(I)V"⟩, 12)]
theorem lw_r1 : ∀ q ∈ lw_privs_1, lw_okq q := List.forall_mem_cons.mpr ⟨lw_p0, List.forall_mem_cons.mpr ⟨lw_p1, List.forall_mem_cons.mpr ⟨lw_p2, List.forall_mem_cons.mpr ⟨lw_p3, List.forall_mem_cons.mpr ⟨lw_p4, List.forall_mem_cons.mpr ⟨lw_p5, List.forall_mem_cons.mpr ⟨lw_p6, List.forall_mem_cons.mpr ⟨lw_p7, List.forall_mem_cons.mpr ⟨lw_p8, List.forall_mem_cons.mpr ⟨lw_p9, List.forall_mem_cons.mpr ⟨lw_p10, List.forall_mem_cons.mpr ⟨lw_p11, List.forall_mem_cons.mpr ⟨lw_p12, List.forall_mem_cons.mpr ⟨lw_p13, List.forall_mem_cons.mpr ⟨lw_p14, List.forall_mem_cons.mpr ⟨lw_p15, fun _ h => absurd h List.not_mem_nil⟩⟩⟩⟩⟩⟩⟩⟩⟩⟩⟩⟩⟩⟩⟩⟩
theorem lw_p16 : lw_okq (⟨"LeanedOut$Street", "beside", "(I)I"⟩, 12) := ⟨⟨by decide +kernel, by decide +kernel⟩, List.mem_of_getElem? (i := 147) (by decide +kernel), List.mem_of_getElem? (i := 441) (by decide +kernel), List.mem_of_getElem? (i := 442) (by decide +kernel)⟩
theorem lw_p17 : lw_okq (⟨"LeanedOut", "comes", "(II)I"⟩, 12) := ⟨⟨by decide +kernel, by decide +kernel⟩, List.mem_of_getElem? (i := 21) (by decide +kernel), List.mem_of_getElem? (i := 473) (by decide +kernel), List.mem_of_getElem? (i := 474) (by decide +kernel)⟩
theorem lw_p18 : lw_okq (⟨"LeanedOut", "looksAt", "(II)I"⟩, 12) := ⟨⟨by decide +kernel, by decide +kernel⟩, List.mem_of_getElem? (i := 21) (by decide +kernel), List.mem_of_getElem? (i := 496) (by decide +kernel), List.mem_of_getElem? (i := 497) (by decide +kernel)⟩
theorem lw_p19 : lw_okq (⟨"LeanedOut$Street", "isMet", "(I)Z"⟩, 12) := ⟨⟨by decide +kernel, by decide +kernel⟩, List.mem_of_getElem? (i := 147) (by decide +kernel), List.mem_of_getElem? (i := 518) (by decide +kernel), List.mem_of_getElem? (i := 519) (by decide +kernel)⟩
theorem lw_p20 : lw_okq (⟨"LeanedOut$Street", "endOn", "(II)I"⟩, 12) := ⟨⟨by decide +kernel, by decide +kernel⟩, List.mem_of_getElem? (i := 147) (by decide +kernel), List.mem_of_getElem? (i := 603) (by decide +kernel), List.mem_of_getElem? (i := 604) (by decide +kernel)⟩
theorem lw_p21 : lw_okq (⟨"LeanedOut", "daysTillKept", "(I)I"⟩, 12) := ⟨⟨by decide +kernel, by decide +kernel⟩, List.mem_of_getElem? (i := 21) (by decide +kernel), List.mem_of_getElem? (i := 663) (by decide +kernel), List.mem_of_getElem? (i := 664) (by decide +kernel)⟩
theorem lw_p22 : lw_okq (⟨"LeanedOut", "keptBehind", "(I)I"⟩, 12) := ⟨⟨by decide +kernel, by decide +kernel⟩, List.mem_of_getElem? (i := 21) (by decide +kernel), List.mem_of_getElem? (i := 679) (by decide +kernel), List.mem_of_getElem? (i := 680) (by decide +kernel)⟩
theorem lw_p23 : lw_okq (⟨"LeanedOut", "gatherMembers", "(I)I"⟩, 12) := ⟨⟨by decide +kernel, by decide +kernel⟩, List.mem_of_getElem? (i := 21) (by decide +kernel), List.mem_of_getElem? (i := 687) (by decide +kernel), List.mem_of_getElem? (i := 688) (by decide +kernel)⟩
theorem lw_p24 : lw_okq (⟨"LeanedOut", "orderDigits", "(I)I"⟩, 12) := ⟨⟨by decide +kernel, by decide +kernel⟩, List.mem_of_getElem? (i := 21) (by decide +kernel), List.mem_of_getElem? (i := 691) (by decide +kernel), List.mem_of_getElem? (i := 692) (by decide +kernel)⟩
theorem lw_p25 : lw_okq (⟨"LeanedOut", "nextOrder", "(I)Z"⟩, 12) := ⟨⟨by decide +kernel, by decide +kernel⟩, List.mem_of_getElem? (i := 21) (by decide +kernel), List.mem_of_getElem? (i := 695) (by decide +kernel), List.mem_of_getElem? (i := 696) (by decide +kernel)⟩
theorem lw_p26 : lw_okq (⟨"LeanedOut", "swapInOrder", "(II)V"⟩, 12) := ⟨⟨by decide +kernel, by decide +kernel⟩, List.mem_of_getElem? (i := 21) (by decide +kernel), List.mem_of_getElem? (i := 699) (by decide +kernel), List.mem_of_getElem? (i := 700) (by decide +kernel)⟩
theorem lw_p27 : lw_okq (⟨"LeanedOut", "giveLooks", "(I)V"⟩, 12) := ⟨⟨by decide +kernel, by decide +kernel⟩, List.mem_of_getElem? (i := 21) (by decide +kernel), List.mem_of_getElem? (i := 703) (by decide +kernel), List.mem_of_getElem? (i := 704) (by decide +kernel)⟩
theorem lw_p28 : lw_okq (⟨"LeanedOut", "refusalOf", "(II)I"⟩, 12) := ⟨⟨by decide +kernel, by decide +kernel⟩, List.mem_of_getElem? (i := 21) (by decide +kernel), List.mem_of_getElem? (i := 719) (by decide +kernel), List.mem_of_getElem? (i := 720) (by decide +kernel)⟩
theorem lw_p29 : lw_okq (⟨"LeanedOut", "refusalOfSheet", "(I)I"⟩, 12) := ⟨⟨by decide +kernel, by decide +kernel⟩, List.mem_of_getElem? (i := 21) (by decide +kernel), List.mem_of_getElem? (i := 723) (by decide +kernel), List.mem_of_getElem? (i := 724) (by decide +kernel)⟩
theorem lw_p30 : lw_okq (⟨"LeanedOut", "firstOtherwise", "(LLeanedOut$Sheet;I)I"⟩, 12) := ⟨⟨by decide +kernel, by decide +kernel⟩, List.mem_of_getElem? (i := 21) (by decide +kernel), List.mem_of_getElem? (i := 734) (by decide +kernel), List.mem_of_getElem? (i := 735) (by decide +kernel)⟩
theorem lw_p31 : lw_okq (⟨"LeanedOut", "passCraneDays", "(I)V"⟩, 12) := ⟨⟨by decide +kernel, by decide +kernel⟩, List.mem_of_getElem? (i := 21) (by decide +kernel), List.mem_of_getElem? (i := 785) (by decide +kernel), List.mem_of_getElem? (i := 786) (by decide +kernel)⟩
def lw_privs_2 : List (MethodName × Nat) := [(⟨"LeanedOut$Street", "beside", "(I)I"⟩, 12), (⟨"LeanedOut", "comes", "(II)I"⟩, 12), (⟨"LeanedOut", "looksAt", "(II)I"⟩, 12), (⟨"LeanedOut$Street", "isMet", "(I)Z"⟩, 12), (⟨"LeanedOut$Street", "endOn", "(II)I"⟩, 12), (⟨"LeanedOut", "daysTillKept", "(I)I"⟩, 12), (⟨"LeanedOut", "keptBehind", "(I)I"⟩, 12), (⟨"LeanedOut", "gatherMembers", "(I)I"⟩, 12), (⟨"LeanedOut", "orderDigits", "(I)I"⟩, 12), (⟨"LeanedOut", "nextOrder", "(I)Z"⟩, 12), (⟨"LeanedOut", "swapInOrder", "(II)V"⟩, 12), (⟨"LeanedOut", "giveLooks", "(I)V"⟩, 12), (⟨"LeanedOut", "refusalOf", "(II)I"⟩, 12), (⟨"LeanedOut", "refusalOfSheet", "(I)I"⟩, 12), (⟨"LeanedOut", "firstOtherwise", "(LLeanedOut$Sheet;I)I"⟩, 12), (⟨"LeanedOut", "passCraneDays", "(I)V"⟩, 12)]
theorem lw_r2 : ∀ q ∈ lw_privs_2, lw_okq q := List.forall_mem_cons.mpr ⟨lw_p16, List.forall_mem_cons.mpr ⟨lw_p17, List.forall_mem_cons.mpr ⟨lw_p18, List.forall_mem_cons.mpr ⟨lw_p19, List.forall_mem_cons.mpr ⟨lw_p20, List.forall_mem_cons.mpr ⟨lw_p21, List.forall_mem_cons.mpr ⟨lw_p22, List.forall_mem_cons.mpr ⟨lw_p23, List.forall_mem_cons.mpr ⟨lw_p24, List.forall_mem_cons.mpr ⟨lw_p25, List.forall_mem_cons.mpr ⟨lw_p26, List.forall_mem_cons.mpr ⟨lw_p27, List.forall_mem_cons.mpr ⟨lw_p28, List.forall_mem_cons.mpr ⟨lw_p29, List.forall_mem_cons.mpr ⟨lw_p30, List.forall_mem_cons.mpr ⟨lw_p31, fun _ h => absurd h List.not_mem_nil⟩⟩⟩⟩⟩⟩⟩⟩⟩⟩⟩⟩⟩⟩⟩⟩
theorem lw_p32 : lw_okq (⟨"LeanedOutModel", "next", "()V"⟩, 35) := ⟨⟨by decide +kernel, by decide +kernel⟩, List.mem_of_getElem? (i := 837) (by decide +kernel), List.mem_of_getElem? (i := 847) (by decide +kernel), List.mem_of_getElem? (i := 848) (by decide +kernel)⟩
theorem lw_p33 : lw_okq (⟨"LeanedOutModel", "wordFrom", "(II)I"⟩, 35) := ⟨⟨by decide +kernel, by decide +kernel⟩, List.mem_of_getElem? (i := 837) (by decide +kernel), List.mem_of_getElem? (i := 854) (by decide +kernel), List.mem_of_getElem? (i := 855) (by decide +kernel)⟩
theorem lw_p34 : lw_okq (⟨"LeanedOutModel", "eRead", "()Z"⟩, 35) := ⟨⟨by decide +kernel, by decide +kernel⟩, List.mem_of_getElem? (i := 837) (by decide +kernel), List.mem_of_getElem? (i := 858) (by decide +kernel), List.mem_of_getElem? (i := 859) (by decide +kernel)⟩
theorem lw_p35 : lw_okq (⟨"LeanedOutModel", "puts", "(I)V"⟩, 35) := ⟨⟨by decide +kernel, by decide +kernel⟩, List.mem_of_getElem? (i := 837) (by decide +kernel), List.mem_of_getElem? (i := 863) (by decide +kernel), List.mem_of_getElem? (i := 864) (by decide +kernel)⟩
theorem lw_p36 : lw_okq (⟨"LeanedOutModel", "unwinds", "(I)V"⟩, 35) := ⟨⟨by decide +kernel, by decide +kernel⟩, List.mem_of_getElem? (i := 837) (by decide +kernel), List.mem_of_getElem? (i := 867) (by decide +kernel), List.mem_of_getElem? (i := 868) (by decide +kernel)⟩
theorem lw_p37 : lw_okq (⟨"LeanedOutModel", "opensOne", "(I)Z"⟩, 35) := ⟨⟨by decide +kernel, by decide +kernel⟩, List.mem_of_getElem? (i := 837) (by decide +kernel), List.mem_of_getElem? (i := 874) (by decide +kernel), List.mem_of_getElem? (i := 875) (by decide +kernel)⟩
theorem lw_p38 : lw_okq (⟨"LeanedOutModel", "holds", "(I)V"⟩, 35) := ⟨⟨by decide +kernel, by decide +kernel⟩, List.mem_of_getElem? (i := 837) (by decide +kernel), List.mem_of_getElem? (i := 878) (by decide +kernel), List.mem_of_getElem? (i := 879) (by decide +kernel)⟩
theorem lw_p39 : lw_okq (⟨"LeanedOutModel", "signOf", "()I"⟩, 35) := ⟨⟨by decide +kernel, by decide +kernel⟩, List.mem_of_getElem? (i := 837) (by decide +kernel), List.mem_of_getElem? (i := 882) (by decide +kernel), List.mem_of_getElem? (i := 883) (by decide +kernel)⟩
theorem lw_p40 : lw_okq (⟨"LeanedOutModel", "between", "(I)Z"⟩, 35) := ⟨⟨by decide +kernel, by decide +kernel⟩, List.mem_of_getElem? (i := 837) (by decide +kernel), List.mem_of_getElem? (i := 886) (by decide +kernel), List.mem_of_getElem? (i := 887) (by decide +kernel)⟩
theorem lw_p41 : lw_okq (⟨"LeanedOutModel", "keptSet", "()I"⟩, 35) := ⟨⟨by decide +kernel, by decide +kernel⟩, List.mem_of_getElem? (i := 837) (by decide +kernel), List.mem_of_getElem? (i := 1000) (by decide +kernel), List.mem_of_getElem? (i := 1001) (by decide +kernel)⟩
theorem lw_p42 : lw_okq (⟨"LeanedOutModel", "isOne", "(I)Z"⟩, 35) := ⟨⟨by decide +kernel, by decide +kernel⟩, List.mem_of_getElem? (i := 837) (by decide +kernel), List.mem_of_getElem? (i := 1027) (by decide +kernel), List.mem_of_getElem? (i := 1028) (by decide +kernel)⟩
theorem lw_p43 : lw_okq (⟨"LeanedOutModel", "asksOf", "(II)I"⟩, 35) := ⟨⟨by decide +kernel, by decide +kernel⟩, List.mem_of_getElem? (i := 837) (by decide +kernel), List.mem_of_getElem? (i := 1031) (by decide +kernel), List.mem_of_getElem? (i := 1032) (by decide +kernel)⟩
theorem lw_p44 : lw_okq (⟨"LeanedOutModel", "besideOf", "(I)I"⟩, 35) := ⟨⟨by decide +kernel, by decide +kernel⟩, List.mem_of_getElem? (i := 837) (by decide +kernel), List.mem_of_getElem? (i := 1038) (by decide +kernel), List.mem_of_getElem? (i := 1039) (by decide +kernel)⟩
theorem lw_p45 : lw_okq (⟨"LeanedOutModel", "lookersOf", "(I)I"⟩, 35) := ⟨⟨by decide +kernel, by decide +kernel⟩, List.mem_of_getElem? (i := 837) (by decide +kernel), List.mem_of_getElem? (i := 1042) (by decide +kernel), List.mem_of_getElem? (i := 1043) (by decide +kernel)⟩
theorem lw_p46 : lw_okq (⟨"LeanedOutModel", "says", "(I)I"⟩, 35) := ⟨⟨by decide +kernel, by decide +kernel⟩, List.mem_of_getElem? (i := 837) (by decide +kernel), List.mem_of_getElem? (i := 1046) (by decide +kernel), List.mem_of_getElem? (i := 1047) (by decide +kernel)⟩
theorem lw_p47 : lw_okq (⟨"LeanedOutModel", "whoAt", "(I)I"⟩, 35) := ⟨⟨by decide +kernel, by decide +kernel⟩, List.mem_of_getElem? (i := 837) (by decide +kernel), List.mem_of_getElem? (i := 1063) (by decide +kernel), List.mem_of_getElem? (i := 1064) (by decide +kernel)⟩
def lw_privs_3 : List (MethodName × Nat) := [(⟨"LeanedOutModel", "next", "()V"⟩, 35), (⟨"LeanedOutModel", "wordFrom", "(II)I"⟩, 35), (⟨"LeanedOutModel", "eRead", "()Z"⟩, 35), (⟨"LeanedOutModel", "puts", "(I)V"⟩, 35), (⟨"LeanedOutModel", "unwinds", "(I)V"⟩, 35), (⟨"LeanedOutModel", "opensOne", "(I)Z"⟩, 35), (⟨"LeanedOutModel", "holds", "(I)V"⟩, 35), (⟨"LeanedOutModel", "signOf", "()I"⟩, 35), (⟨"LeanedOutModel", "between", "(I)Z"⟩, 35), (⟨"LeanedOutModel", "keptSet", "()I"⟩, 35), (⟨"LeanedOutModel", "isOne", "(I)Z"⟩, 35), (⟨"LeanedOutModel", "asksOf", "(II)I"⟩, 35), (⟨"LeanedOutModel", "besideOf", "(I)I"⟩, 35), (⟨"LeanedOutModel", "lookersOf", "(I)I"⟩, 35), (⟨"LeanedOutModel", "says", "(I)I"⟩, 35), (⟨"LeanedOutModel", "whoAt", "(I)I"⟩, 35)]
theorem lw_r3 : ∀ q ∈ lw_privs_3, lw_okq q := List.forall_mem_cons.mpr ⟨lw_p32, List.forall_mem_cons.mpr ⟨lw_p33, List.forall_mem_cons.mpr ⟨lw_p34, List.forall_mem_cons.mpr ⟨lw_p35, List.forall_mem_cons.mpr ⟨lw_p36, List.forall_mem_cons.mpr ⟨lw_p37, List.forall_mem_cons.mpr ⟨lw_p38, List.forall_mem_cons.mpr ⟨lw_p39, List.forall_mem_cons.mpr ⟨lw_p40, List.forall_mem_cons.mpr ⟨lw_p41, List.forall_mem_cons.mpr ⟨lw_p42, List.forall_mem_cons.mpr ⟨lw_p43, List.forall_mem_cons.mpr ⟨lw_p44, List.forall_mem_cons.mpr ⟨lw_p45, List.forall_mem_cons.mpr ⟨lw_p46, List.forall_mem_cons.mpr ⟨lw_p47, fun _ h => absurd h List.not_mem_nil⟩⟩⟩⟩⟩⟩⟩⟩⟩⟩⟩⟩⟩⟩⟩⟩
theorem lw_p48 : lw_okq (⟨"LeanedOutModel", "mayBeAt", "(II)Z"⟩, 35) := ⟨⟨by decide +kernel, by decide +kernel⟩, List.mem_of_getElem? (i := 837) (by decide +kernel), List.mem_of_getElem? (i := 1071) (by decide +kernel), List.mem_of_getElem? (i := 1072) (by decide +kernel)⟩
theorem lw_p49 : lw_okq (⟨"LeanedOutModel", "leansOf", "(I)I"⟩, 35) := ⟨⟨by decide +kernel, by decide +kernel⟩, List.mem_of_getElem? (i := 837) (by decide +kernel), List.mem_of_getElem? (i := 1079) (by decide +kernel), List.mem_of_getElem? (i := 1080) (by decide +kernel)⟩
theorem lw_p50 : lw_okq (⟨"LeanedOutModel", "isMet", "(I)Z"⟩, 35) := ⟨⟨by decide +kernel, by decide +kernel⟩, List.mem_of_getElem? (i := 837) (by decide +kernel), List.mem_of_getElem? (i := 1083) (by decide +kernel), List.mem_of_getElem? (i := 1084) (by decide +kernel)⟩
theorem lw_p51 : lw_okq (⟨"LeanedOutModel", "holdsOf", "(I)I"⟩, 35) := ⟨⟨by decide +kernel, by decide +kernel⟩, List.mem_of_getElem? (i := 837) (by decide +kernel), List.mem_of_getElem? (i := 1087) (by decide +kernel), List.mem_of_getElem? (i := 1088) (by decide +kernel)⟩
theorem lw_p52 : lw_okq (⟨"LeanedOutModel", "mindsOf", "(I)I"⟩, 35) := ⟨⟨by decide +kernel, by decide +kernel⟩, List.mem_of_getElem? (i := 837) (by decide +kernel), List.mem_of_getElem? (i := 1091) (by decide +kernel), List.mem_of_getElem? (i := 1092) (by decide +kernel)⟩
theorem lw_p53 : lw_okq (⟨"LeanedOutModel", "metTwos", "()I"⟩, 35) := ⟨⟨by decide +kernel, by decide +kernel⟩, List.mem_of_getElem? (i := 837) (by decide +kernel), List.mem_of_getElem? (i := 1099) (by decide +kernel), List.mem_of_getElem? (i := 1100) (by decide +kernel)⟩
theorem lw_p54 : lw_okq (⟨"LeanedOutModel", "crossing", "()I"⟩, 35) := ⟨⟨by decide +kernel, by decide +kernel⟩, List.mem_of_getElem? (i := 837) (by decide +kernel), List.mem_of_getElem? (i := 1103) (by decide +kernel), List.mem_of_getElem? (i := 1104) (by decide +kernel)⟩
theorem lw_p55 : lw_okq (⟨"LeanedOutModel", "endOn", "(II)I"⟩, 35) := ⟨⟨by decide +kernel, by decide +kernel⟩, List.mem_of_getElem? (i := 837) (by decide +kernel), List.mem_of_getElem? (i := 1107) (by decide +kernel), List.mem_of_getElem? (i := 1108) (by decide +kernel)⟩
theorem lw_p56 : lw_okq (⟨"LeanedOutModel", "mostLooked", "()I"⟩, 35) := ⟨⟨by decide +kernel, by decide +kernel⟩, List.mem_of_getElem? (i := 837) (by decide +kernel), List.mem_of_getElem? (i := 1111) (by decide +kernel), List.mem_of_getElem? (i := 1112) (by decide +kernel)⟩
theorem lw_p57 : lw_okq (⟨"LeanedOutModel", "unseen", "()I"⟩, 35) := ⟨⟨by decide +kernel, by decide +kernel⟩, List.mem_of_getElem? (i := 837) (by decide +kernel), List.mem_of_getElem? (i := 1115) (by decide +kernel), List.mem_of_getElem? (i := 1116) (by decide +kernel)⟩
theorem lw_p58 : lw_okq (⟨"LeanedOutModel", "dayOf", "()I"⟩, 35) := ⟨⟨by decide +kernel, by decide +kernel⟩, List.mem_of_getElem? (i := 837) (by decide +kernel), List.mem_of_getElem? (i := 1127) (by decide +kernel), List.mem_of_getElem? (i := 1128) (by decide +kernel)⟩
theorem lw_p59 : lw_okq (⟨"LeanedOutModel", "keepsAll", "()V"⟩, 35) := ⟨⟨by decide +kernel, by decide +kernel⟩, List.mem_of_getElem? (i := 837) (by decide +kernel), List.mem_of_getElem? (i := 1144) (by decide +kernel), List.mem_of_getElem? (i := 1145) (by decide +kernel)⟩
theorem lw_p60 : lw_okq (⟨"LeanedOutModel", "goes", "(I)V"⟩, 35) := ⟨⟨by decide +kernel, by decide +kernel⟩, List.mem_of_getElem? (i := 837) (by decide +kernel), List.mem_of_getElem? (i := 1148) (by decide +kernel), List.mem_of_getElem? (i := 1149) (by decide +kernel)⟩
theorem lw_p61 : lw_okq (⟨"LeanedOutModel", "mindsAll", "()I"⟩, 35) := ⟨⟨by decide +kernel, by decide +kernel⟩, List.mem_of_getElem? (i := 837) (by decide +kernel), List.mem_of_getElem? (i := 1152) (by decide +kernel), List.mem_of_getElem? (i := 1153) (by decide +kernel)⟩
theorem lw_p62 : lw_okq (⟨"LeanedOutModel", "leanAll", "()I"⟩, 35) := ⟨⟨by decide +kernel, by decide +kernel⟩, List.mem_of_getElem? (i := 837) (by decide +kernel), List.mem_of_getElem? (i := 1156) (by decide +kernel), List.mem_of_getElem? (i := 1157) (by decide +kernel)⟩
theorem lw_p63 : lw_okq (⟨"LeanedOutModel", "lays", "()V"⟩, 35) := ⟨⟨by decide +kernel, by decide +kernel⟩, List.mem_of_getElem? (i := 837) (by decide +kernel), List.mem_of_getElem? (i := 1160) (by decide +kernel), List.mem_of_getElem? (i := 1161) (by decide +kernel)⟩
def lw_privs_4 : List (MethodName × Nat) := [(⟨"LeanedOutModel", "mayBeAt", "(II)Z"⟩, 35), (⟨"LeanedOutModel", "leansOf", "(I)I"⟩, 35), (⟨"LeanedOutModel", "isMet", "(I)Z"⟩, 35), (⟨"LeanedOutModel", "holdsOf", "(I)I"⟩, 35), (⟨"LeanedOutModel", "mindsOf", "(I)I"⟩, 35), (⟨"LeanedOutModel", "metTwos", "()I"⟩, 35), (⟨"LeanedOutModel", "crossing", "()I"⟩, 35), (⟨"LeanedOutModel", "endOn", "(II)I"⟩, 35), (⟨"LeanedOutModel", "mostLooked", "()I"⟩, 35), (⟨"LeanedOutModel", "unseen", "()I"⟩, 35), (⟨"LeanedOutModel", "dayOf", "()I"⟩, 35), (⟨"LeanedOutModel", "keepsAll", "()V"⟩, 35), (⟨"LeanedOutModel", "goes", "(I)V"⟩, 35), (⟨"LeanedOutModel", "mindsAll", "()I"⟩, 35), (⟨"LeanedOutModel", "leanAll", "()I"⟩, 35), (⟨"LeanedOutModel", "lays", "()V"⟩, 35)]
theorem lw_r4 : ∀ q ∈ lw_privs_4, lw_okq q := List.forall_mem_cons.mpr ⟨lw_p48, List.forall_mem_cons.mpr ⟨lw_p49, List.forall_mem_cons.mpr ⟨lw_p50, List.forall_mem_cons.mpr ⟨lw_p51, List.forall_mem_cons.mpr ⟨lw_p52, List.forall_mem_cons.mpr ⟨lw_p53, List.forall_mem_cons.mpr ⟨lw_p54, List.forall_mem_cons.mpr ⟨lw_p55, List.forall_mem_cons.mpr ⟨lw_p56, List.forall_mem_cons.mpr ⟨lw_p57, List.forall_mem_cons.mpr ⟨lw_p58, List.forall_mem_cons.mpr ⟨lw_p59, List.forall_mem_cons.mpr ⟨lw_p60, List.forall_mem_cons.mpr ⟨lw_p61, List.forall_mem_cons.mpr ⟨lw_p62, List.forall_mem_cons.mpr ⟨lw_p63, fun _ h => absurd h List.not_mem_nil⟩⟩⟩⟩⟩⟩⟩⟩⟩⟩⟩⟩⟩⟩⟩⟩
theorem lw_p64 : lw_okq (⟨"LeanedOutModel", "keepsOf", "(I)I"⟩, 35) := ⟨⟨by decide +kernel, by decide +kernel⟩, List.mem_of_getElem? (i := 837) (by decide +kernel), List.mem_of_getElem? (i := 1168) (by decide +kernel), List.mem_of_getElem? (i := 1169) (by decide +kernel)⟩
theorem lw_p65 : lw_okq (⟨"LeanedOutModel", "keptBehind", "(I)I"⟩, 35) := ⟨⟨by decide +kernel, by decide +kernel⟩, List.mem_of_getElem? (i := 837) (by decide +kernel), List.mem_of_getElem? (i := 1184) (by decide +kernel), List.mem_of_getElem? (i := 1185) (by decide +kernel)⟩
theorem lw_p66 : lw_okq (⟨"LeanedOutModel", "tellsSide", "(I)V"⟩, 35) := ⟨⟨by decide +kernel, by decide +kernel⟩, List.mem_of_getElem? (i := 837) (by decide +kernel), List.mem_of_getElem? (i := 1192) (by decide +kernel), List.mem_of_getElem? (i := 1193) (by decide +kernel)⟩
theorem lw_p67 : lw_okq (⟨"LeanedOutModel", "gives", "(I)Z"⟩, 35) := ⟨⟨by decide +kernel, by decide +kernel⟩, List.mem_of_getElem? (i := 837) (by decide +kernel), List.mem_of_getElem? (i := 1196) (by decide +kernel), List.mem_of_getElem? (i := 1197) (by decide +kernel)⟩
theorem lw_p68 : lw_okq (⟨"LeanedOutModel", "toldWrong", "(II)I"⟩, 35) := ⟨⟨by decide +kernel, by decide +kernel⟩, List.mem_of_getElem? (i := 837) (by decide +kernel), List.mem_of_getElem? (i := 1212) (by decide +kernel), List.mem_of_getElem? (i := 1213) (by decide +kernel)⟩
theorem lw_p69 : lw_okq (⟨"LeanedOutModel", "sheetWrong", "(I)I"⟩, 35) := ⟨⟨by decide +kernel, by decide +kernel⟩, List.mem_of_getElem? (i := 837) (by decide +kernel), List.mem_of_getElem? (i := 1216) (by decide +kernel), List.mem_of_getElem? (i := 1217) (by decide +kernel)⟩
theorem lw_p70 : lw_okq (⟨"LeanedOutModel", "unlike", "(II)I"⟩, 35) := ⟨⟨by decide +kernel, by decide +kernel⟩, List.mem_of_getElem? (i := 837) (by decide +kernel), List.mem_of_getElem? (i := 1220) (by decide +kernel), List.mem_of_getElem? (i := 1221) (by decide +kernel)⟩
theorem lw_p71 : lw_okq (⟨"LeanedOutModel", "cranes", "(I)I"⟩, 35) := ⟨⟨by decide +kernel, by decide +kernel⟩, List.mem_of_getElem? (i := 837) (by decide +kernel), List.mem_of_getElem? (i := 1253) (by decide +kernel), List.mem_of_getElem? (i := 1254) (by decide +kernel)⟩
def lw_privs_5 : List (MethodName × Nat) := [(⟨"LeanedOutModel", "keepsOf", "(I)I"⟩, 35), (⟨"LeanedOutModel", "keptBehind", "(I)I"⟩, 35), (⟨"LeanedOutModel", "tellsSide", "(I)V"⟩, 35), (⟨"LeanedOutModel", "gives", "(I)Z"⟩, 35), (⟨"LeanedOutModel", "toldWrong", "(II)I"⟩, 35), (⟨"LeanedOutModel", "sheetWrong", "(I)I"⟩, 35), (⟨"LeanedOutModel", "unlike", "(II)I"⟩, 35), (⟨"LeanedOutModel", "cranes", "(I)I"⟩, 35)]
theorem lw_r5 : ∀ q ∈ lw_privs_5, lw_okq q := List.forall_mem_cons.mpr ⟨lw_p64, List.forall_mem_cons.mpr ⟨lw_p65, List.forall_mem_cons.mpr ⟨lw_p66, List.forall_mem_cons.mpr ⟨lw_p67, List.forall_mem_cons.mpr ⟨lw_p68, List.forall_mem_cons.mpr ⟨lw_p69, List.forall_mem_cons.mpr ⟨lw_p70, List.forall_mem_cons.mpr ⟨lw_p71, fun _ h => absurd h List.not_mem_nil⟩⟩⟩⟩⟩⟩⟩⟩
def lw_privs : List (MethodName × Nat) := lw_privs_1 ++ (lw_privs_2 ++ (lw_privs_3 ++ (lw_privs_4 ++ (lw_privs_5))))
def lw_tbl : List Cond := k2_sels lw_privs ++ tables_1
theorem lw_privs_ok : ∀ q ∈ lw_privs, lw_okq q := by
  show ∀ q ∈ lw_privs_1 ++ (lw_privs_2 ++ (lw_privs_3 ++ (lw_privs_4 ++ (lw_privs_5)))), lw_okq q
  exact List.forall_mem_append.mpr ⟨lw_r1, List.forall_mem_append.mpr ⟨lw_r2, List.forall_mem_append.mpr ⟨lw_r3, List.forall_mem_append.mpr ⟨lw_r4, lw_r5⟩⟩⟩⟩
/-! names, printed -/
def RX0 : String := "LeanedOut$Child"
def TX0 : u_T := fun k => match k with
  | _ => ("", "", "", false)
def tyX0 : Nat → FieldType := fun k => match k with
  | _ => .int
abbrev wsX00 : List Cond := u_ws RX0 TX0 0
theorem nmX0 : ∀ a, a < 0 → ∀ b, b < 0 → a ≠ b → (TX0 a).2.1 ≠ (TX0 b).2.1 := by decide +kernel
theorem tyX0_ok : ∀ k, k < 0 → parseFieldDescriptor (TX0 k).2.2.1 = some (tyX0 k) := by decide +kernel
abbrev cX0_init : ByteArray := prog_2_method_1_code
def yX0_init : MethodName := ⟨RX0, "<init>", "()V"⟩
abbrev cX0_leaning : ByteArray := prog_2_method_2_code
def yX0_leaning : MethodName := ⟨RX0, "leaning", "(IZII)I"⟩
abbrev cX0_holding : ByteArray := prog_2_method_3_code
def yX0_holding : MethodName := ⟨RX0, "holding", "(II)I"⟩
def RX1 : String := "LeanedOut$Duster"
def TX1 : u_T := fun k => match k with
  | _ => ("", "", "", false)
def tyX1 : Nat → FieldType := fun k => match k with
  | _ => .int
abbrev wsX10 : List Cond := u_ws RX1 TX1 0
theorem nmX1 : ∀ a, a < 0 → ∀ b, b < 0 → a ≠ b → (TX1 a).2.1 ≠ (TX1 b).2.1 := by decide +kernel
theorem tyX1_ok : ∀ k, k < 0 → parseFieldDescriptor (TX1 k).2.2.1 = some (tyX1 k) := by decide +kernel
abbrev cX1_init : ByteArray := prog_3_method_1_code
def yX1_init : MethodName := ⟨RX1, "<init>", "()V"⟩
abbrev cX1_leaning : ByteArray := prog_3_method_2_code
def yX1_leaning : MethodName := ⟨RX1, "leaning", "(IZII)I"⟩
abbrev cX1_minding : ByteArray := prog_3_method_3_code
def yX1_minding : MethodName := ⟨RX1, "minding", "(II)I"⟩
def RX2 : String := "LeanedOut$Lover"
def TX2 : u_T := fun k => match k with
  | _ => ("", "", "", false)
def tyX2 : Nat → FieldType := fun k => match k with
  | _ => .int
abbrev wsX20 : List Cond := u_ws RX2 TX2 0
theorem nmX2 : ∀ a, a < 0 → ∀ b, b < 0 → a ≠ b → (TX2 a).2.1 ≠ (TX2 b).2.1 := by decide +kernel
theorem tyX2_ok : ∀ k, k < 0 → parseFieldDescriptor (TX2 k).2.2.1 = some (tyX2 k) := by decide +kernel
abbrev cX2_init : ByteArray := prog_4_method_1_code
def yX2_init : MethodName := ⟨RX2, "<init>", "()V"⟩
abbrev cX2_leaning : ByteArray := prog_4_method_2_code
def yX2_leaning : MethodName := ⟨RX2, "leaning", "(IZII)I"⟩
abbrev cX2_minding : ByteArray := prog_4_method_3_code
def yX2_minding : MethodName := ⟨RX2, "minding", "(II)I"⟩
def RX3 : String := "LeanedOut$Person"
def TX3 : u_T := fun k => match k with
  | _ => ("", "", "", false)
def tyX3 : Nat → FieldType := fun k => match k with
  | _ => .int
abbrev wsX30 : List Cond := u_ws RX3 TX3 0
theorem nmX3 : ∀ a, a < 0 → ∀ b, b < 0 → a ≠ b → (TX3 a).2.1 ≠ (TX3 b).2.1 := by decide +kernel
theorem tyX3_ok : ∀ k, k < 0 → parseFieldDescriptor (TX3 k).2.2.1 = some (tyX3 k) := by decide +kernel
abbrev cX3_init : ByteArray := prog_5_method_1_code
def yX3_init : MethodName := ⟨RX3, "<init>", "()V"⟩
abbrev cX3_leaning : ByteArray := prog_5_method_2_code
def yX3_leaning : MethodName := ⟨RX3, "leaning", "(IZII)I"⟩
abbrev cX3_holding : ByteArray := prog_5_method_3_code
def yX3_holding : MethodName := ⟨RX3, "holding", "(II)I"⟩
abbrev cX3_minding : ByteArray := prog_5_method_4_code
def yX3_minding : MethodName := ⟨RX3, "minding", "(II)I"⟩
def RX4 : String := "LeanedOut$Plaster"
def TX4 : u_T := fun k => match k with
  | _ => ("", "", "", false)
def tyX4 : Nat → FieldType := fun k => match k with
  | _ => .int
abbrev wsX40 : List Cond := u_ws RX4 TX4 0
theorem nmX4 : ∀ a, a < 0 → ∀ b, b < 0 → a ≠ b → (TX4 a).2.1 ≠ (TX4 b).2.1 := by decide +kernel
theorem tyX4_ok : ∀ k, k < 0 → parseFieldDescriptor (TX4 k).2.2.1 = some (tyX4 k) := by decide +kernel
abbrev cX4_init : ByteArray := prog_6_method_1_code
def yX4_init : MethodName := ⟨RX4, "<init>", "()V"⟩
abbrev cX4_leaning : ByteArray := prog_6_method_2_code
def yX4_leaning : MethodName := ⟨RX4, "leaning", "(IZII)I"⟩
abbrev cX4_holding : ByteArray := prog_6_method_3_code
def yX4_holding : MethodName := ⟨RX4, "holding", "(II)I"⟩
def RX5 : String := "LeanedOut$Reader"
def TX5 : u_T := fun k => match k with
  | 0 => ("LeanedOut$Reader", "tape", "[I", false)
  | 1 => ("LeanedOut$Reader", "text", "LLeanedOut$Text;", false)
  | 2 => ("LeanedOut$Reader", "size", "I", false)
  | 3 => ("LeanedOut$Reader", "next", "I", false)
  | 4 => ("LeanedOut$Reader", "token", "I", false)
  | 5 => ("LeanedOut$Reader", "place", "I", false)
  | 6 => ("LeanedOut$Reader", "value", "I", false)
  | _ => ("LeanedOut$Reader", "fault", "I", false)
def tyX5 : Nat → FieldType := fun k => match k with
  | 0 => .array .int
  | 1 => .object "LeanedOut$Text"
  | 2 => .int
  | 3 => .int
  | 4 => .int
  | 5 => .int
  | 6 => .int
  | _ => .int
abbrev wsX50 : List Cond := u_ws RX5 TX5 8
theorem nmX5 : ∀ a, a < 8 → ∀ b, b < 8 → a ≠ b → (TX5 a).2.1 ≠ (TX5 b).2.1 := by decide +kernel
theorem tyX5_ok : ∀ k, k < 8 → parseFieldDescriptor (TX5 k).2.2.1 = some (tyX5 k) := by decide +kernel
abbrev cX5_init : ByteArray := prog_7_method_1_code
def yX5_init : MethodName := ⟨RX5, "<init>", "()V"⟩
abbrev cX5_readAll : ByteArray := prog_7_method_2_code
def yX5_readAll : MethodName := ⟨RX5, "readAll", "([IILLeanedOut$Text;)I"⟩
abbrev cX5_fail : ByteArray := prog_7_method_3_code
def yX5_fail : MethodName := ⟨RX5, "fail", "()V"⟩
abbrev cX5_expect : ByteArray := prog_7_method_4_code
def yX5_expect : MethodName := ⟨RX5, "expect", "(I)V"⟩
abbrev cX5_readOr : ByteArray := prog_7_method_5_code
def yX5_readOr : MethodName := ⟨RX5, "readOr", "(I)V"⟩
abbrev cX5_readAnd : ByteArray := prog_7_method_6_code
def yX5_readAnd : MethodName := ⟨RX5, "readAnd", "(I)V"⟩
abbrev cX5_readNot : ByteArray := prog_7_method_7_code
def yX5_readNot : MethodName := ⟨RX5, "readNot", "(I)V"⟩
abbrev cX5_readSum : ByteArray := prog_7_method_8_code
def yX5_readSum : MethodName := ⟨RX5, "readSum", "(I)V"⟩
abbrev cX5_readTerm : ByteArray := prog_7_method_9_code
def yX5_readTerm : MethodName := ⟨RX5, "readTerm", "(I)V"⟩
abbrev cX5_readOne : ByteArray := prog_7_method_10_code
def yX5_readOne : MethodName := ⟨RX5, "readOne", "(I)V"⟩
abbrev cX5_step : ByteArray := prog_7_method_11_code
def yX5_step : MethodName := ⟨RX5, "step", "()V"⟩
abbrev cX5_isLetter : ByteArray := prog_7_method_12_code
def yX5_isLetter : MethodName := ⟨RX5, "isLetter", "(I)Z"⟩
abbrev cX5_isDigit : ByteArray := prog_7_method_13_code
def yX5_isDigit : MethodName := ⟨RX5, "isDigit", "(I)Z"⟩
abbrev cX5_isSign : ByteArray := prog_7_method_14_code
def yX5_isSign : MethodName := ⟨RX5, "isSign", "(I)Z"⟩
abbrev cX5_takeNumber : ByteArray := prog_7_method_15_code
def yX5_takeNumber : MethodName := ⟨RX5, "takeNumber", "()V"⟩
abbrev cX5_takeWord : ByteArray := prog_7_method_16_code
def yX5_takeWord : MethodName := ⟨RX5, "takeWord", "()V"⟩
abbrev cX5_nameNumber : ByteArray := prog_7_method_17_code
def yX5_nameNumber : MethodName := ⟨RX5, "nameNumber", "()I"⟩
abbrev cX5_keyToken : ByteArray := prog_7_method_18_code
def yX5_keyToken : MethodName := ⟨RX5, "keyToken", "()I"⟩
abbrev cX5_spells : ByteArray := prog_7_method_19_code
def yX5_spells : MethodName := ⟨RX5, "spells", "(Ljava/lang/String;)Z"⟩
def RX6 : String := "LeanedOut$Sheet"
def TX6 : u_T := fun k => match k with
  | 0 => ("LeanedOut$Sheet", "cells", "[I", true)
  | 1 => ("LeanedOut$Sheet", "sort", "I", false)
  | _ => ("LeanedOut$Sheet", "size", "I", false)
def tyX6 : Nat → FieldType := fun k => match k with
  | 0 => .array .int
  | 1 => .int
  | _ => .int
abbrev wsX60 : List Cond := u_ws RX6 TX6 3
theorem nmX6 : ∀ a, a < 3 → ∀ b, b < 3 → a ≠ b → (TX6 a).2.1 ≠ (TX6 b).2.1 := by decide +kernel
theorem tyX6_ok : ∀ k, k < 3 → parseFieldDescriptor (TX6 k).2.2.1 = some (tyX6 k) := by decide +kernel
abbrev cX6_init : ByteArray := prog_8_method_1_code
def yX6_init : MethodName := ⟨RX6, "<init>", "()V"⟩
abbrev cX6_isMissing : ByteArray := prog_8_method_2_code
def yX6_isMissing : MethodName := ⟨RX6, "isMissing", "()Z"⟩
abbrev cX6_become : ByteArray := prog_8_method_3_code
def yX6_become : MethodName := ⟨RX6, "become", "(II)V"⟩
abbrev cX6_has : ByteArray := prog_8_method_4_code
def yX6_has : MethodName := ⟨RX6, "has", "(I)Z"⟩
abbrev cX6_hasRow : ByteArray := prog_8_method_5_code
def yX6_hasRow : MethodName := ⟨RX6, "hasRow", "(II)Z"⟩
abbrev cX6_get : ByteArray := prog_8_method_6_code
def yX6_get : MethodName := ⟨RX6, "get", "(I)I"⟩
abbrev cX6_set : ByteArray := prog_8_method_7_code
def yX6_set : MethodName := ⟨RX6, "set", "(II)V"⟩
def RX7 : String := "LeanedOut$Street"
def TX7 : u_T := fun k => match k with
  | 0 => ("LeanedOut$Street", "window", "[I", true)
  | 1 => ("LeanedOut$Street", "look", "[I", true)
  | 2 => ("LeanedOut$Street", "lean", "[I", true)
  | 3 => ("LeanedOut$Street", "kind", "[I", true)
  | 4 => ("LeanedOut$Street", "more", "[I", true)
  | 5 => ("LeanedOut$Street", "isKept", "[Z", true)
  | 6 => ("LeanedOut$Street", "people", "I", false)
  | 7 => ("LeanedOut$Street", "day", "I", false)
  | 8 => ("LeanedOut$Street", "law", "I", false)
  | 9 => ("LeanedOut$Street", "named", "[I", true)
  | 10 => ("LeanedOut$Street", "allKinds", "[LLeanedOut$Person;", true)
  | _ => ("LeanedOut$Street", "allTexts", "[LLeanedOut$Text;", true)
def tyX7 : Nat → FieldType := fun k => match k with
  | 0 => .array .int
  | 1 => .array .int
  | 2 => .array .int
  | 3 => .array .int
  | 4 => .array .int
  | 5 => .array .boolean
  | 6 => .int
  | 7 => .int
  | 8 => .int
  | 9 => .array .int
  | 10 => .array (.object "LeanedOut$Person")
  | _ => .array (.object "LeanedOut$Text")
abbrev wsX70 : List Cond := u_ws RX7 TX7 12
theorem nmX7 : ∀ a, a < 12 → ∀ b, b < 12 → a ≠ b → (TX7 a).2.1 ≠ (TX7 b).2.1 := by decide +kernel
theorem tyX7_ok : ∀ k, k < 12 → parseFieldDescriptor (TX7 k).2.2.1 = some (tyX7 k) := by decide +kernel
abbrev cX7_init : ByteArray := prog_9_method_1_code
def yX7_init : MethodName := ⟨RX7, "<init>", "([LLeanedOut$Person;[LLeanedOut$Text;)V"⟩
abbrev cX7_become : ByteArray := prog_9_method_2_code
def yX7_become : MethodName := ⟨RX7, "become", "(LLeanedOut$Street;)V"⟩
abbrev cX7_has : ByteArray := prog_9_method_3_code
def yX7_has : MethodName := ⟨RX7, "has", "(I)Z"⟩
abbrev cX7_isWindow : ByteArray := prog_9_method_4_code
def yX7_isWindow : MethodName := ⟨RX7, "isWindow", "(I)Z"⟩
abbrev cX7_areOpposite : ByteArray := prog_9_method_5_code
def yX7_areOpposite : MethodName := ⟨RX7, "areOpposite", "(II)Z"⟩
abbrev cX7_mayLookAt : ByteArray := prog_9_method_6_code
def yX7_mayLookAt : MethodName := ⟨RX7, "mayLookAt", "(II)Z"⟩
abbrev cX7_mayBeAt : ByteArray := prog_9_method_7_code
def yX7_mayBeAt : MethodName := ⟨RX7, "mayBeAt", "(II)Z"⟩
abbrev cX7_whoIsAt : ByteArray := prog_9_method_8_code
def yX7_whoIsAt : MethodName := ⟨RX7, "whoIsAt", "(I)I"⟩
abbrev cX7_isMet : ByteArray := prog_9_method_9_code
def yX7_isMet : MethodName := ⟨RX7, "isMet", "(I)Z"⟩
abbrev cX7_lookers : ByteArray := prog_9_method_10_code
def yX7_lookers : MethodName := ⟨RX7, "lookers", "(I)I"⟩
abbrev cX7_beside : ByteArray := prog_9_method_11_code
def yX7_beside : MethodName := ⟨RX7, "beside", "(I)I"⟩
abbrev cX7_meetings : ByteArray := prog_9_method_12_code
def yX7_meetings : MethodName := ⟨RX7, "meetings", "()I"⟩
abbrev cX7_crossings : ByteArray := prog_9_method_13_code
def yX7_crossings : MethodName := ⟨RX7, "crossings", "()I"⟩
abbrev cX7_endOn : ByteArray := prog_9_method_14_code
def yX7_endOn : MethodName := ⟨RX7, "endOn", "(II)I"⟩
abbrev cX7_mostLookedAt : ByteArray := prog_9_method_15_code
def yX7_mostLookedAt : MethodName := ⟨RX7, "mostLookedAt", "()I"⟩
abbrev cX7_unseen : ByteArray := prog_9_method_16_code
def yX7_unseen : MethodName := ⟨RX7, "unseen", "()I"⟩
abbrev cX7_keptBits : ByteArray := prog_9_method_17_code
def yX7_keptBits : MethodName := ⟨RX7, "keptBits", "()I"⟩
abbrev cX7_leanOfAll : ByteArray := prog_9_method_18_code
def yX7_leanOfAll : MethodName := ⟨RX7, "leanOfAll", "()I"⟩
abbrev cX7_mindingOfTheRest : ByteArray := prog_9_method_19_code
def yX7_mindingOfTheRest : MethodName := ⟨RX7, "mindingOfTheRest", "()I"⟩
abbrev cX7_says : ByteArray := prog_9_method_20_code
def yX7_says : MethodName := ⟨RX7, "says", "(II)I"⟩
abbrev cX7_fillNames : ByteArray := prog_9_method_21_code
def yX7_fillNames : MethodName := ⟨RX7, "fillNames", "(I)V"⟩
abbrev cX7_bounded : ByteArray := prog_9_method_22_code
def yX7_bounded : MethodName := ⟨RX7, "bounded", "(III)I"⟩
abbrev cX7_kindOf : ByteArray := prog_9_method_23_code
def yX7_kindOf : MethodName := ⟨RX7, "kindOf", "(I)LLeanedOut$Person;"⟩
abbrev cX7_leaning : ByteArray := prog_9_method_24_code
def yX7_leaning : MethodName := ⟨RX7, "leaning", "(I)I"⟩
abbrev cX7_holding : ByteArray := prog_9_method_25_code
def yX7_holding : MethodName := ⟨RX7, "holding", "(I)I"⟩
abbrev cX7_minding : ByteArray := prog_9_method_26_code
def yX7_minding : MethodName := ⟨RX7, "minding", "(I)I"⟩
abbrev cX7_passDay : ByteArray := prog_9_method_27_code
def yX7_passDay : MethodName := ⟨RX7, "passDay", "()I"⟩
def RX8 : String := "LeanedOut$Tenant"
def TX8 : u_T := fun k => match k with
  | _ => ("", "", "", false)
def tyX8 : Nat → FieldType := fun k => match k with
  | _ => .int
abbrev wsX80 : List Cond := u_ws RX8 TX8 0
theorem nmX8 : ∀ a, a < 0 → ∀ b, b < 0 → a ≠ b → (TX8 a).2.1 ≠ (TX8 b).2.1 := by decide +kernel
theorem tyX8_ok : ∀ k, k < 0 → parseFieldDescriptor (TX8 k).2.2.1 = some (tyX8 k) := by decide +kernel
abbrev cX8_init : ByteArray := prog_10_method_1_code
def yX8_init : MethodName := ⟨RX8, "<init>", "()V"⟩
abbrev cX8_holding : ByteArray := prog_10_method_2_code
def yX8_holding : MethodName := ⟨RX8, "holding", "(II)I"⟩
abbrev cX8_minding : ByteArray := prog_10_method_3_code
def yX8_minding : MethodName := ⟨RX8, "minding", "(II)I"⟩
def RX9 : String := "LeanedOut$Text"
def TX9 : u_T := fun k => match k with
  | 0 => ("LeanedOut$Text", "steps", "[I", true)
  | 1 => ("LeanedOut$Text", "operands", "[I", true)
  | 2 => ("LeanedOut$Text", "stack", "[I", true)
  | 3 => ("LeanedOut$Text", "ends", "[I", true)
  | _ => ("LeanedOut$Text", "size", "I", false)
def tyX9 : Nat → FieldType := fun k => match k with
  | 0 => .array .int
  | 1 => .array .int
  | 2 => .array .int
  | 3 => .array .int
  | _ => .int
abbrev wsX90 : List Cond := u_ws RX9 TX9 5
theorem nmX9 : ∀ a, a < 5 → ∀ b, b < 5 → a ≠ b → (TX9 a).2.1 ≠ (TX9 b).2.1 := by decide +kernel
theorem tyX9_ok : ∀ k, k < 5 → parseFieldDescriptor (TX9 k).2.2.1 = some (tyX9 k) := by decide +kernel
abbrev cX9_init : ByteArray := prog_11_method_1_code
def yX9_init : MethodName := ⟨RX9, "<init>", "()V"⟩
abbrev cX9_empty : ByteArray := prog_11_method_2_code
def yX9_empty : MethodName := ⟨RX9, "empty", "()V"⟩
abbrev cX9_add : ByteArray := prog_11_method_3_code
def yX9_add : MethodName := ⟨RX9, "add", "(II)V"⟩
abbrev cX9_endPart : ByteArray := prog_11_method_4_code
def yX9_endPart : MethodName := ⟨RX9, "endPart", "(I)V"⟩
abbrev cX9_value : ByteArray := prog_11_method_5_code
def yX9_value : MethodName := ⟨RX9, "value", "(I[I)I"⟩
abbrev cX9_operand : ByteArray := prog_11_method_6_code
def yX9_operand : MethodName := ⟨RX9, "operand", "(II[I)I"⟩
abbrev cX9_ofOne : ByteArray := prog_11_method_7_code
def yX9_ofOne : MethodName := ⟨RX9, "ofOne", "(II)I"⟩
abbrev cX9_ofTwo : ByteArray := prog_11_method_8_code
def yX9_ofTwo : MethodName := ⟨RX9, "ofTwo", "(III)I"⟩
def RX10 : String := "LeanedOut"
def TX10 : u_T := fun k => match k with
  | 0 => ("LeanedOut", "texts", "[LLeanedOut$Text;", true)
  | 1 => ("LeanedOut", "sheets", "[LLeanedOut$Sheet;", true)
  | 2 => ("LeanedOut", "now", "LLeanedOut$Street;", true)
  | 3 => ("LeanedOut", "thought", "LLeanedOut$Street;", true)
  | 4 => ("LeanedOut", "kept", "LLeanedOut$Street;", true)
  | 5 => ("LeanedOut", "reader", "LLeanedOut$Reader;", true)
  | 6 => ("LeanedOut", "tape", "[I", true)
  | 7 => ("LeanedOut", "members", "[I", true)
  | 8 => ("LeanedOut", "order", "[I", true)
  | 9 => ("LeanedOut", "textCount", "I", false)
  | 10 => ("LeanedOut", "tapeSize", "I", false)
  | _ => ("LeanedOut", "imageKept", "Z", false)
def tyX10 : Nat → FieldType := fun k => match k with
  | 0 => .array (.object "LeanedOut$Text")
  | 1 => .array (.object "LeanedOut$Sheet")
  | 2 => .object "LeanedOut$Street"
  | 3 => .object "LeanedOut$Street"
  | 4 => .object "LeanedOut$Street"
  | 5 => .object "LeanedOut$Reader"
  | 6 => .array .int
  | 7 => .array .int
  | 8 => .array .int
  | 9 => .int
  | 10 => .int
  | _ => .boolean
abbrev wsX100 : List Cond := u_ws RX10 TX10 12
theorem nmX10 : ∀ a, a < 12 → ∀ b, b < 12 → a ≠ b → (TX10 a).2.1 ≠ (TX10 b).2.1 := by decide +kernel
theorem tyX10_ok : ∀ k, k < 12 → parseFieldDescriptor (TX10 k).2.2.1 = some (tyX10 k) := by decide +kernel
abbrev cX10_init : ByteArray := prog_1_method_1_code
def yX10_init : MethodName := ⟨RX10, "<init>", "()V"⟩
abbrev cX10_count : ByteArray := prog_1_method_2_code
def yX10_count : MethodName := ⟨RX10, "count", "(I)I"⟩
abbrev cX10_dawn : ByteArray := prog_1_method_3_code
def yX10_dawn : MethodName := ⟨RX10, "dawn", "(I)I"⟩
abbrev cX10_feed : ByteArray := prog_1_method_4_code
def yX10_feed : MethodName := ⟨RX10, "feed", "(IIIIII)I"⟩
abbrev cX10_text : ByteArray := prog_1_method_5_code
def yX10_text : MethodName := ⟨RX10, "text", "()I"⟩
abbrev cX10_force : ByteArray := prog_1_method_6_code
def yX10_force : MethodName := ⟨RX10, "force", "(I)I"⟩
abbrev cX10_asks : ByteArray := prog_1_method_7_code
def yX10_asks : MethodName := ⟨RX10, "asks", "(II)I"⟩
abbrev cX10_person : ByteArray := prog_1_method_8_code
def yX10_person : MethodName := ⟨RX10, "person", "(II)I"⟩
abbrev cX10_put : ByteArray := prog_1_method_9_code
def yX10_put : MethodName := ⟨RX10, "put", "(III)I"⟩
abbrev cX10_told : ByteArray := prog_1_method_10_code
def yX10_told : MethodName := ⟨RX10, "told", "(II)I"⟩
abbrev cX10_street : ByteArray := prog_1_method_11_code
def yX10_street : MethodName := ⟨RX10, "street", "(I)I"⟩
abbrev cX10_chain : ByteArray := prog_1_method_12_code
def yX10_chain : MethodName := ⟨RX10, "chain", "(I)I"⟩
abbrev cX10_day : ByteArray := prog_1_method_13_code
def yX10_day : MethodName := ⟨RX10, "day", "()I"⟩
abbrev cX10_callIn : ByteArray := prog_1_method_14_code
def yX10_callIn : MethodName := ⟨RX10, "callIn", "(I)I"⟩
abbrev cX10_crane : ByteArray := prog_1_method_15_code
def yX10_crane : MethodName := ⟨RX10, "crane", "(II)I"⟩
abbrev cX10_run : ByteArray := prog_1_method_16_code
def yX10_run : MethodName := ⟨RX10, "run", "(II)I"⟩
abbrev cX10_keeps : ByteArray := prog_1_method_17_code
def yX10_keeps : MethodName := ⟨RX10, "keeps", "(I)I"⟩
abbrev cX10_turn : ByteArray := prog_1_method_18_code
def yX10_turn : MethodName := ⟨RX10, "turn", "(I)I"⟩
abbrev cX10_safe : ByteArray := prog_1_method_19_code
def yX10_safe : MethodName := ⟨RX10, "safe", "(II)I"⟩
abbrev cX10_warn : ByteArray := prog_1_method_20_code
def yX10_warn : MethodName := ⟨RX10, "warn", "(II)I"⟩
abbrev cX10_untangle : ByteArray := prog_1_method_21_code
def yX10_untangle : MethodName := ⟨RX10, "untangle", "(II)I"⟩
abbrev cX10_strain : ByteArray := prog_1_method_22_code
def yX10_strain : MethodName := ⟨RX10, "strain", "(II)J"⟩
abbrev cX10_judge : ByteArray := prog_1_method_23_code
def yX10_judge : MethodName := ⟨RX10, "judge", "(II)I"⟩
abbrev cX10_kinds : ByteArray := prog_1_method_24_code
def yX10_kinds : MethodName := ⟨RX10, "kinds", "(III)I"⟩
abbrev cX10_windows : ByteArray := prog_1_method_25_code
def yX10_windows : MethodName := ⟨RX10, "windows", "(III)I"⟩
abbrev cX10_leans : ByteArray := prog_1_method_26_code
def yX10_leans : MethodName := ⟨RX10, "leans", "(III)I"⟩
abbrev cX10_whose : ByteArray := prog_1_method_27_code
def yX10_whose : MethodName := ⟨RX10, "whose", "(I)I"⟩
abbrev cX10_laws : ByteArray := prog_1_method_28_code
def yX10_laws : MethodName := ⟨RX10, "laws", "(II)I"⟩
abbrev cX10_film : ByteArray := prog_1_method_29_code
def yX10_film : MethodName := ⟨RX10, "film", "(III)I"⟩
abbrev cX10_drawn : ByteArray := prog_1_method_30_code
def yX10_drawn : MethodName := ⟨RX10, "drawn", "(II)I"⟩
abbrev cX10_odds : ByteArray := prog_1_method_31_code
def yX10_odds : MethodName := ⟨RX10, "odds", "(IIII)J"⟩
abbrev cX10_image : ByteArray := prog_1_method_32_code
def yX10_image : MethodName := ⟨RX10, "image", "()I"⟩
abbrev cX10_back : ByteArray := prog_1_method_33_code
def yX10_back : MethodName := ⟨RX10, "back", "()I"⟩
abbrev cX10_sheet : ByteArray := prog_1_method_34_code
def yX10_sheet : MethodName := ⟨RX10, "sheet", "(III)I"⟩
abbrev cX10_cell : ByteArray := prog_1_method_35_code
def yX10_cell : MethodName := ⟨RX10, "cell", "(III)I"⟩
abbrev cX10_copy : ByteArray := prog_1_method_36_code
def yX10_copy : MethodName := ⟨RX10, "copy", "(IIIII)I"⟩
abbrev cX10_peopleBy : ByteArray := prog_1_method_37_code
def yX10_peopleBy : MethodName := ⟨RX10, "peopleBy", "(IIII)I"⟩
abbrev cX10_taken : ByteArray := prog_1_method_38_code
def yX10_taken : MethodName := ⟨RX10, "taken", "(II)I"⟩
abbrev cX10_isByte : ByteArray := prog_1_method_39_code
def yX10_isByte : MethodName := ⟨RX10, "isByte", "(I)Z"⟩
abbrev cX10_isSheet : ByteArray := prog_1_method_40_code
def yX10_isSheet : MethodName := ⟨RX10, "isSheet", "(I)Z"⟩
abbrev cX10_feedOne : ByteArray := prog_1_method_41_code
def yX10_feedOne : MethodName := ⟨RX10, "feedOne", "(I)V"⟩
abbrev cX10_comes : ByteArray := prog_1_method_42_code
def yX10_comes : MethodName := ⟨RX10, "comes", "(II)I"⟩
abbrev cX10_looksAt : ByteArray := prog_1_method_43_code
def yX10_looksAt : MethodName := ⟨RX10, "looksAt", "(II)I"⟩
abbrev cX10_daysTillKept : ByteArray := prog_1_method_44_code
def yX10_daysTillKept : MethodName := ⟨RX10, "daysTillKept", "(I)I"⟩
abbrev cX10_keptBehind : ByteArray := prog_1_method_45_code
def yX10_keptBehind : MethodName := ⟨RX10, "keptBehind", "(I)I"⟩
abbrev cX10_refusalOfSheet : ByteArray := prog_1_method_46_code
def yX10_refusalOfSheet : MethodName := ⟨RX10, "refusalOfSheet", "(I)I"⟩
abbrev cX10_refusalOf : ByteArray := prog_1_method_47_code
def yX10_refusalOf : MethodName := ⟨RX10, "refusalOf", "(II)I"⟩
abbrev cX10_firstOtherwise : ByteArray := prog_1_method_48_code
def yX10_firstOtherwise : MethodName := ⟨RX10, "firstOtherwise", "(LLeanedOut$Sheet;I)I"⟩
abbrev cX10_passCraneDays : ByteArray := prog_1_method_49_code
def yX10_passCraneDays : MethodName := ⟨RX10, "passCraneDays", "(I)V"⟩
abbrev cX10_lowest : ByteArray := prog_1_method_50_code
def yX10_lowest : MethodName := ⟨RX10, "lowest", "(III)J"⟩
abbrev cX10_gatherMembers : ByteArray := prog_1_method_51_code
def yX10_gatherMembers : MethodName := ⟨RX10, "gatherMembers", "(I)I"⟩
abbrev cX10_orderDigits : ByteArray := prog_1_method_52_code
def yX10_orderDigits : MethodName := ⟨RX10, "orderDigits", "(I)I"⟩
abbrev cX10_giveLooks : ByteArray := prog_1_method_53_code
def yX10_giveLooks : MethodName := ⟨RX10, "giveLooks", "(I)V"⟩
abbrev cX10_nextOrder : ByteArray := prog_1_method_54_code
def yX10_nextOrder : MethodName := ⟨RX10, "nextOrder", "(I)Z"⟩
abbrev cX10_swapInOrder : ByteArray := prog_1_method_55_code
def yX10_swapInOrder : MethodName := ⟨RX10, "swapInOrder", "(II)V"⟩
abbrev cX10_isOfKind : ByteArray := prog_1_method_56_code
def yX10_isOfKind : MethodName := ⟨RX10, "isOfKind", "(LLeanedOut$Person;I)Z"⟩
def RX11 : String := "LeanedOutModel"
def TX11 : u_T := fun k => match k with
  | 0 => ("LeanedOutModel", "people", "I", false)
  | 1 => ("LeanedOutModel", "kind", "[I", true)
  | 2 => ("LeanedOutModel", "moreOf", "[I", true)
  | 3 => ("LeanedOutModel", "rows", "[I", true)
  | 4 => ("LeanedOutModel", "days", "I", false)
  | 5 => ("LeanedOutModel", "tape", "[I", true)
  | 6 => ("LeanedOutModel", "taped", "I", false)
  | 7 => ("LeanedOutModel", "codes", "[I", true)
  | 8 => ("LeanedOutModel", "starts", "[I", true)
  | 9 => ("LeanedOutModel", "texts", "I", false)
  | 10 => ("LeanedOutModel", "rule", "I", false)
  | 11 => ("LeanedOutModel", "hasImage", "Z", false)
  | 12 => ("LeanedOutModel", "imageRows", "[I", true)
  | 13 => ("LeanedOutModel", "imageHeld", "[I", true)
  | 14 => ("LeanedOutModel", "sheetSort", "[I", true)
  | 15 => ("LeanedOutModel", "sheetSize", "[I", true)
  | 16 => ("LeanedOutModel", "cells", "[I", true)
  | 17 => ("LeanedOutModel", "law", "[I", true)
  | 18 => ("LeanedOutModel", "at", "I", false)
  | 19 => ("LeanedOutModel", "begun", "I", false)
  | 20 => ("LeanedOutModel", "token", "I", false)
  | 21 => ("LeanedOutModel", "value", "I", false)
  | 22 => ("LeanedOutModel", "words", "[I", true)
  | 23 => ("LeanedOutModel", "held", "[I", true)
  | 24 => ("LeanedOutModel", "heldMany", "I", false)
  | 25 => ("LeanedOutModel", "opens", "I", false)
  | 26 => ("LeanedOutModel", "out", "I", false)
  | 27 => ("LeanedOutModel", "stack", "[I", true)
  | 28 => ("LeanedOutModel", "named", "[I", true)
  | 29 => ("LeanedOutModel", "kept", "[I", true)
  | 30 => ("LeanedOutModel", "sideOnes", "[I", true)
  | 31 => ("LeanedOutModel", "sideLooks", "[I", true)
  | 32 => ("LeanedOutModel", "sideMany", "I", false)
  | 33 => ("LeanedOutModel", "sideDigits", "I", false)
  | _ => ("LeanedOutModel", "metThen", "I", false)
def tyX11 : Nat → FieldType := fun k => match k with
  | 0 => .int
  | 1 => .array .int
  | 2 => .array .int
  | 3 => .array .int
  | 4 => .int
  | 5 => .array .int
  | 6 => .int
  | 7 => .array .int
  | 8 => .array .int
  | 9 => .int
  | 10 => .int
  | 11 => .boolean
  | 12 => .array .int
  | 13 => .array .int
  | 14 => .array .int
  | 15 => .array .int
  | 16 => .array .int
  | 17 => .array .int
  | 18 => .int
  | 19 => .int
  | 20 => .int
  | 21 => .int
  | 22 => .array .int
  | 23 => .array .int
  | 24 => .int
  | 25 => .int
  | 26 => .int
  | 27 => .array .int
  | 28 => .array .int
  | 29 => .array .int
  | 30 => .array .int
  | 31 => .array .int
  | 32 => .int
  | 33 => .int
  | _ => .int
abbrev wsX110 : List Cond := u_ws RX11 TX11 35
theorem nmX11 : ∀ a, a < 35 → ∀ b, b < 35 → a ≠ b → (TX11 a).2.1 ≠ (TX11 b).2.1 := by decide +kernel
theorem tyX11_ok : ∀ k, k < 35 → parseFieldDescriptor (TX11 k).2.2.1 = some (tyX11 k) := by decide +kernel
abbrev cX11_init : ByteArray := prog_13_method_1_code
def yX11_init : MethodName := ⟨RX11, "<init>", "()V"⟩
abbrev cX11_in : ByteArray := prog_13_method_3_code
def yX11_in : MethodName := ⟨RX11, "in", "(III)Z"⟩
abbrev cX11_within : ByteArray := prog_13_method_4_code
def yX11_within : MethodName := ⟨RX11, "within", "(III)I"⟩
abbrev cX11_isOne : ByteArray := prog_13_method_5_code
def yX11_isOne : MethodName := ⟨RX11, "isOne", "(I)Z"⟩
abbrev cX11_areAcross : ByteArray := prog_13_method_6_code
def yX11_areAcross : MethodName := ⟨RX11, "areAcross", "(II)Z"⟩
abbrev cX11_whoAt : ByteArray := prog_13_method_7_code
def yX11_whoAt : MethodName := ⟨RX11, "whoAt", "(I)I"⟩
abbrev cX11_keptSet : ByteArray := prog_13_method_8_code
def yX11_keptSet : MethodName := ⟨RX11, "keptSet", "()I"⟩
abbrev cX11_ones : ByteArray := prog_13_method_9_code
def yX11_ones : MethodName := ⟨RX11, "ones", "(I)I"⟩
abbrev cX11_count : ByteArray := prog_13_method_10_code
def yX11_count : MethodName := ⟨RX11, "count", "(I)I"⟩
abbrev cX11_dawn : ByteArray := prog_13_method_11_code
def yX11_dawn : MethodName := ⟨RX11, "dawn", "(I)I"⟩
abbrev cX11_isByte : ByteArray := prog_13_method_12_code
def yX11_isByte : MethodName := ⟨RX11, "isByte", "(I)Z"⟩
abbrev cX11_feed : ByteArray := prog_13_method_13_code
def yX11_feed : MethodName := ⟨RX11, "feed", "(IIIIII)I"⟩
abbrev cX11_wordFrom : ByteArray := prog_13_method_14_code
def yX11_wordFrom : MethodName := ⟨RX11, "wordFrom", "(II)I"⟩
abbrev cX11_next : ByteArray := prog_13_method_15_code
def yX11_next : MethodName := ⟨RX11, "next", "()V"⟩
abbrev cX11_rank : ByteArray := prog_13_method_16_code
def yX11_rank : MethodName := ⟨RX11, "rank", "(I)I"⟩
abbrev cX11_puts : ByteArray := prog_13_method_17_code
def yX11_puts : MethodName := ⟨RX11, "puts", "(I)V"⟩
abbrev cX11_unwinds : ByteArray := prog_13_method_18_code
def yX11_unwinds : MethodName := ⟨RX11, "unwinds", "(I)V"⟩
abbrev cX11_holds : ByteArray := prog_13_method_19_code
def yX11_holds : MethodName := ⟨RX11, "holds", "(I)V"⟩
abbrev cX11_opensOne : ByteArray := prog_13_method_20_code
def yX11_opensOne : MethodName := ⟨RX11, "opensOne", "(I)Z"⟩
abbrev cX11_between : ByteArray := prog_13_method_21_code
def yX11_between : MethodName := ⟨RX11, "between", "(I)Z"⟩
abbrev cX11_signOf : ByteArray := prog_13_method_22_code
def yX11_signOf : MethodName := ⟨RX11, "signOf", "()I"⟩
abbrev cX11_eRead : ByteArray := prog_13_method_23_code
def yX11_eRead : MethodName := ⟨RX11, "eRead", "()Z"⟩
abbrev cX11_text : ByteArray := prog_13_method_24_code
def yX11_text : MethodName := ⟨RX11, "text", "()I"⟩
abbrev cX11_two : ByteArray := prog_13_method_25_code
def yX11_two : MethodName := ⟨RX11, "two", "(III)I"⟩
abbrev cX11_says : ByteArray := prog_13_method_26_code
def yX11_says : MethodName := ⟨RX11, "says", "(I)I"⟩
abbrev cX11_force : ByteArray := prog_13_method_27_code
def yX11_force : MethodName := ⟨RX11, "force", "(I)I"⟩
abbrev cX11_farOf : ByteArray := prog_13_method_28_code
def yX11_farOf : MethodName := ⟨RX11, "farOf", "(II)I"⟩
abbrev cX11_besideOf : ByteArray := prog_13_method_29_code
def yX11_besideOf : MethodName := ⟨RX11, "besideOf", "(I)I"⟩
abbrev cX11_lookersOf : ByteArray := prog_13_method_30_code
def yX11_lookersOf : MethodName := ⟨RX11, "lookersOf", "(I)I"⟩
abbrev cX11_isMet : ByteArray := prog_13_method_31_code
def yX11_isMet : MethodName := ⟨RX11, "isMet", "(I)Z"⟩
abbrev cX11_asksOf : ByteArray := prog_13_method_32_code
def yX11_asksOf : MethodName := ⟨RX11, "asksOf", "(II)I"⟩
abbrev cX11_asks : ByteArray := prog_13_method_33_code
def yX11_asks : MethodName := ⟨RX11, "asks", "(II)I"⟩
abbrev cX11_person : ByteArray := prog_13_method_34_code
def yX11_person : MethodName := ⟨RX11, "person", "(II)I"⟩
abbrev cX11_mayBeAt : ByteArray := prog_13_method_35_code
def yX11_mayBeAt : MethodName := ⟨RX11, "mayBeAt", "(II)Z"⟩
abbrev cX11_put : ByteArray := prog_13_method_36_code
def yX11_put : MethodName := ⟨RX11, "put", "(III)I"⟩
abbrev cX11_leansOf : ByteArray := prog_13_method_37_code
def yX11_leansOf : MethodName := ⟨RX11, "leansOf", "(I)I"⟩
abbrev cX11_holdsOf : ByteArray := prog_13_method_38_code
def yX11_holdsOf : MethodName := ⟨RX11, "holdsOf", "(I)I"⟩
abbrev cX11_mindsOf : ByteArray := prog_13_method_39_code
def yX11_mindsOf : MethodName := ⟨RX11, "mindsOf", "(I)I"⟩
abbrev cX11_told : ByteArray := prog_13_method_40_code
def yX11_told : MethodName := ⟨RX11, "told", "(II)I"⟩
abbrev cX11_metTwos : ByteArray := prog_13_method_41_code
def yX11_metTwos : MethodName := ⟨RX11, "metTwos", "()I"⟩
abbrev cX11_endOn : ByteArray := prog_13_method_42_code
def yX11_endOn : MethodName := ⟨RX11, "endOn", "(II)I"⟩
abbrev cX11_crossing : ByteArray := prog_13_method_43_code
def yX11_crossing : MethodName := ⟨RX11, "crossing", "()I"⟩
abbrev cX11_mostLooked : ByteArray := prog_13_method_44_code
def yX11_mostLooked : MethodName := ⟨RX11, "mostLooked", "()I"⟩
abbrev cX11_unseen : ByteArray := prog_13_method_45_code
def yX11_unseen : MethodName := ⟨RX11, "unseen", "()I"⟩
abbrev cX11_street : ByteArray := prog_13_method_46_code
def yX11_street : MethodName := ⟨RX11, "street", "(I)I"⟩
abbrev cX11_chain : ByteArray := prog_13_method_47_code
def yX11_chain : MethodName := ⟨RX11, "chain", "(I)I"⟩
abbrev cX11_dayOf : ByteArray := prog_13_method_48_code
def yX11_dayOf : MethodName := ⟨RX11, "dayOf", "()I"⟩
abbrev cX11_day : ByteArray := prog_13_method_49_code
def yX11_day : MethodName := ⟨RX11, "day", "()I"⟩
abbrev cX11_callIn : ByteArray := prog_13_method_50_code
def yX11_callIn : MethodName := ⟨RX11, "callIn", "(I)I"⟩
abbrev cX11_crane : ByteArray := prog_13_method_51_code
def yX11_crane : MethodName := ⟨RX11, "crane", "(II)I"⟩
abbrev cX11_keepsAll : ByteArray := prog_13_method_52_code
def yX11_keepsAll : MethodName := ⟨RX11, "keepsAll", "()V"⟩
abbrev cX11_lays : ByteArray := prog_13_method_53_code
def yX11_lays : MethodName := ⟨RX11, "lays", "()V"⟩
abbrev cX11_goes : ByteArray := prog_13_method_54_code
def yX11_goes : MethodName := ⟨RX11, "goes", "(I)V"⟩
abbrev cX11_mindsAll : ByteArray := prog_13_method_55_code
def yX11_mindsAll : MethodName := ⟨RX11, "mindsAll", "()I"⟩
abbrev cX11_leanAll : ByteArray := prog_13_method_56_code
def yX11_leanAll : MethodName := ⟨RX11, "leanAll", "()I"⟩
abbrev cX11_run : ByteArray := prog_13_method_57_code
def yX11_run : MethodName := ⟨RX11, "run", "(II)I"⟩
abbrev cX11_keepsOf : ByteArray := prog_13_method_58_code
def yX11_keepsOf : MethodName := ⟨RX11, "keepsOf", "(I)I"⟩
abbrev cX11_keeps : ByteArray := prog_13_method_59_code
def yX11_keeps : MethodName := ⟨RX11, "keeps", "(I)I"⟩
abbrev cX11_turn : ByteArray := prog_13_method_60_code
def yX11_turn : MethodName := ⟨RX11, "turn", "(I)I"⟩
abbrev cX11_safe : ByteArray := prog_13_method_61_code
def yX11_safe : MethodName := ⟨RX11, "safe", "(II)I"⟩
abbrev cX11_keptBehind : ByteArray := prog_13_method_62_code
def yX11_keptBehind : MethodName := ⟨RX11, "keptBehind", "(I)I"⟩
abbrev cX11_warn : ByteArray := prog_13_method_63_code
def yX11_warn : MethodName := ⟨RX11, "warn", "(II)I"⟩
abbrev cX11_tellsSide : ByteArray := prog_13_method_64_code
def yX11_tellsSide : MethodName := ⟨RX11, "tellsSide", "(I)V"⟩
abbrev cX11_gives : ByteArray := prog_13_method_65_code
def yX11_gives : MethodName := ⟨RX11, "gives", "(I)Z"⟩
abbrev cX11_untangle : ByteArray := prog_13_method_66_code
def yX11_untangle : MethodName := ⟨RX11, "untangle", "(II)I"⟩
abbrev cX11_lowest : ByteArray := prog_13_method_67_code
def yX11_lowest : MethodName := ⟨RX11, "lowest", "(JJI)J"⟩
abbrev cX11_strain : ByteArray := prog_13_method_68_code
def yX11_strain : MethodName := ⟨RX11, "strain", "(II)J"⟩
abbrev cX11_sheetWrong : ByteArray := prog_13_method_69_code
def yX11_sheetWrong : MethodName := ⟨RX11, "sheetWrong", "(I)I"⟩
abbrev cX11_toldWrong : ByteArray := prog_13_method_70_code
def yX11_toldWrong : MethodName := ⟨RX11, "toldWrong", "(II)I"⟩
abbrev cX11_unlike : ByteArray := prog_13_method_71_code
def yX11_unlike : MethodName := ⟨RX11, "unlike", "(II)I"⟩
abbrev cX11_judge : ByteArray := prog_13_method_72_code
def yX11_judge : MethodName := ⟨RX11, "judge", "(II)I"⟩
abbrev cX11_kinds : ByteArray := prog_13_method_73_code
def yX11_kinds : MethodName := ⟨RX11, "kinds", "(III)I"⟩
abbrev cX11_windows : ByteArray := prog_13_method_74_code
def yX11_windows : MethodName := ⟨RX11, "windows", "(III)I"⟩
abbrev cX11_leans : ByteArray := prog_13_method_75_code
def yX11_leans : MethodName := ⟨RX11, "leans", "(III)I"⟩
abbrev cX11_whose : ByteArray := prog_13_method_76_code
def yX11_whose : MethodName := ⟨RX11, "whose", "(I)I"⟩
abbrev cX11_laws : ByteArray := prog_13_method_77_code
def yX11_laws : MethodName := ⟨RX11, "laws", "(II)I"⟩
abbrev cX11_film : ByteArray := prog_13_method_78_code
def yX11_film : MethodName := ⟨RX11, "film", "(III)I"⟩
abbrev cX11_cranes : ByteArray := prog_13_method_79_code
def yX11_cranes : MethodName := ⟨RX11, "cranes", "(I)I"⟩
abbrev cX11_drawn : ByteArray := prog_13_method_80_code
def yX11_drawn : MethodName := ⟨RX11, "drawn", "(II)I"⟩
abbrev cX11_odds : ByteArray := prog_13_method_81_code
def yX11_odds : MethodName := ⟨RX11, "odds", "(IIII)J"⟩
abbrev cX11_image : ByteArray := prog_13_method_82_code
def yX11_image : MethodName := ⟨RX11, "image", "()I"⟩
abbrev cX11_back : ByteArray := prog_13_method_83_code
def yX11_back : MethodName := ⟨RX11, "back", "()I"⟩
abbrev cX11_sheet : ByteArray := prog_13_method_84_code
def yX11_sheet : MethodName := ⟨RX11, "sheet", "(III)I"⟩
abbrev cX11_cell : ByteArray := prog_13_method_85_code
def yX11_cell : MethodName := ⟨RX11, "cell", "(III)I"⟩
abbrev cX11_copy : ByteArray := prog_13_method_86_code
def yX11_copy : MethodName := ⟨RX11, "copy", "(IIIII)I"⟩
abbrev cX11_peopleBy : ByteArray := prog_13_method_87_code
def yX11_peopleBy : MethodName := ⟨RX11, "peopleBy", "(IIII)I"⟩
abbrev cX11_isUnder : ByteArray := prog_13_method_88_code
def yX11_isUnder : MethodName := ⟨RX11, "isUnder", "(II)Z"⟩
abbrev cX11_taken : ByteArray := prog_13_method_89_code
def yX11_taken : MethodName := ⟨RX11, "taken", "(II)I"⟩
def RJ6 : String := "java/lang/Integer"
def TJ6 : u_T := fun k => match k with
  | _ => ("", "", "", false)
def tyJ6 : Nat → FieldType := fun k => match k with
  | _ => .int
abbrev wsJ60 : List Cond := u_ws RJ6 TJ6 0
theorem nmJ6 : ∀ a, a < 0 → ∀ b, b < 0 → a ≠ b → (TJ6 a).2.1 ≠ (TJ6 b).2.1 := by decide +kernel
theorem tyJ6_ok : ∀ k, k < 0 → parseFieldDescriptor (TJ6 k).2.2.1 = some (tyJ6 k) := by decide +kernel
abbrev cJ6_compare_7cf53 : ByteArray := prog_14_method_40_code
def yJ6_compare_7cf53 : MethodName := ⟨RJ6, "compare", "(II)I"⟩
abbrev cJ6_bitCount_0f7a4 : ByteArray := prog_14_method_49_code
def yJ6_bitCount_0f7a4 : MethodName := ⟨RJ6, "bitCount", "(I)I"⟩
def RJ9 : String := "java/lang/Math"
def TJ9 : u_T := fun k => match k with
  | _ => ("", "", "", false)
def tyJ9 : Nat → FieldType := fun k => match k with
  | _ => .int
abbrev wsJ90 : List Cond := u_ws RJ9 TJ9 0
theorem nmJ9 : ∀ a, a < 0 → ∀ b, b < 0 → a ≠ b → (TJ9 a).2.1 ≠ (TJ9 b).2.1 := by decide +kernel
theorem tyJ9_ok : ∀ k, k < 0 → parseFieldDescriptor (TJ9 k).2.2.1 = some (tyJ9 k) := by decide +kernel
abbrev cJ9_abs_0f7a4 : ByteArray := prog_15_method_59_code
def yJ9_abs_0f7a4 : MethodName := ⟨RJ9, "abs", "(I)I"⟩
abbrev cJ9_max_7cf53 : ByteArray := prog_15_method_65_code
def yJ9_max_7cf53 : MethodName := ⟨RJ9, "max", "(II)I"⟩
abbrev cJ9_min_7cf53 : ByteArray := prog_15_method_69_code
def yJ9_min_7cf53 : MethodName := ⟨RJ9, "min", "(II)I"⟩
def RJ0 : String := "java/lang/String"
def TJ0 : u_T := fun k => match k with
  | _ => ("", "", "", false)
def tyJ0 : Nat → FieldType := fun k => match k with
  | _ => .int
abbrev wsJ00 : List Cond := u_ws RJ0 TJ0 0
theorem nmJ0 : ∀ a, a < 0 → ∀ b, b < 0 → a ≠ b → (TJ0 a).2.1 ≠ (TJ0 b).2.1 := by decide +kernel
theorem tyJ0_ok : ∀ k, k < 0 → parseFieldDescriptor (TJ0 k).2.2.1 = some (tyJ0 k) := by decide +kernel
abbrev cJ0_length_8abf5 : ByteArray := prog_16_method_54_code
def yJ0_length_8abf5 : MethodName := ⟨RJ0, "length", "()I"⟩
abbrev cJ0_charAt_5068e : ByteArray := prog_16_method_56_code
def yJ0_charAt_5068e : MethodName := ⟨RJ0, "charAt", "(I)C"⟩
abbrev cJ0_coder_7d493 : ByteArray := prog_16_method_152_code
def yJ0_coder_7d493 : MethodName := ⟨RJ0, "coder", "()B"⟩
abbrev cJ0_isLatin1_aae02 : ByteArray := prog_16_method_154_code
def yJ0_isLatin1_aae02 : MethodName := ⟨RJ0, "isLatin1", "()Z"⟩
abbrev cJ0_checkIndex_df160 : ByteArray := prog_16_method_155_code
def yJ0_checkIndex_df160 : MethodName := ⟨RJ0, "checkIndex", "(II)V"⟩
def RJ1 : String := "java/lang/StringLatin1"
def TJ1 : u_T := fun k => match k with
  | _ => ("", "", "", false)
def tyJ1 : Nat → FieldType := fun k => match k with
  | _ => .int
abbrev wsJ10 : List Cond := u_ws RJ1 TJ1 0
theorem nmJ1 : ∀ a, a < 0 → ∀ b, b < 0 → a ≠ b → (TJ1 a).2.1 ≠ (TJ1 b).2.1 := by decide +kernel
theorem tyJ1_ok : ∀ k, k < 0 → parseFieldDescriptor (TJ1 k).2.2.1 = some (tyJ1 k) := by decide +kernel
abbrev cJ1_charAt_3b067 : ByteArray := prog_17_method_2_code
def yJ1_charAt_3b067 : MethodName := ⟨RJ1, "charAt", "([BI)C"⟩
def RJ2 : String := "java/lang/StringUTF16"
def TJ2 : u_T := fun k => match k with
  | _ => ("", "", "", false)
def tyJ2 : Nat → FieldType := fun k => match k with
  | _ => .int
abbrev wsJ20 : List Cond := u_ws RJ2 TJ2 0
theorem nmJ2 : ∀ a, a < 0 → ∀ b, b < 0 → a ≠ b → (TJ2 a).2.1 ≠ (TJ2 b).2.1 := by decide +kernel
theorem tyJ2_ok : ∀ k, k < 0 → parseFieldDescriptor (TJ2 k).2.2.1 = some (tyJ2 k) := by decide +kernel
abbrev cJ2_getChar_3b067 : ByteArray := prog_18_method_5_code
def yJ2_getChar_3b067 : MethodName := ⟨RJ2, "getChar", "([BI)C"⟩
abbrev cJ2_length_9d52b : ByteArray := prog_18_method_6_code
def yJ2_length_9d52b : MethodName := ⟨RJ2, "length", "([B)I"⟩
abbrev cJ2_charAt_3b067 : ByteArray := prog_18_method_83_code
def yJ2_charAt_3b067 : MethodName := ⟨RJ2, "charAt", "([BI)C"⟩
abbrev cJ2_checkIndex_2214a : ByteArray := prog_18_method_91_code
def yJ2_checkIndex_2214a : MethodName := ⟨RJ2, "checkIndex", "(I[B)V"⟩
def RJ10 : String := "java/lang/System"
def TJ10 : u_T := fun k => match k with
  | _ => ("", "", "", false)
def tyJ10 : Nat → FieldType := fun k => match k with
  | _ => .int
abbrev wsJ100 : List Cond := u_ws RJ10 TJ10 0
theorem nmJ10 : ∀ a, a < 0 → ∀ b, b < 0 → a ≠ b → (TJ10 a).2.1 ≠ (TJ10 b).2.1 := by decide +kernel
theorem tyJ10_ok : ∀ k, k < 0 → parseFieldDescriptor (TJ10 k).2.2.1 = some (tyJ10 k) := by decide +kernel
def RJ3 : String := "jdk/internal/util/Preconditions"
def TJ3 : u_T := fun k => match k with
  | _ => ("", "", "", false)
def tyJ3 : Nat → FieldType := fun k => match k with
  | _ => .int
abbrev wsJ30 : List Cond := u_ws RJ3 TJ3 0
theorem nmJ3 : ∀ a, a < 0 → ∀ b, b < 0 → a ≠ b → (TJ3 a).2.1 ≠ (TJ3 b).2.1 := by decide +kernel
theorem tyJ3_ok : ∀ k, k < 0 → parseFieldDescriptor (TJ3 k).2.2.1 = some (tyJ3 k) := by decide +kernel
abbrev cJ3_checkIndex_8e157 : ByteArray := prog_20_method_11_code
def yJ3_checkIndex_8e157 : MethodName := ⟨RJ3, "checkIndex", "(IILjava/util/function/BiFunction;)I"⟩
def RL : String := "LeanedOutLaw"
abbrev cL_law : ByteArray := code
def yL_law : MethodName := ⟨RL, "law", "([I)Z"⟩
theorem bw {i : Nat} {w : Cond} (h : lw_tbl[i]? = some w) (hg : goodWord w = true) : w ∈ lw_tbl.filter goodWord := List.mem_filter.mpr ⟨List.mem_of_getElem? h, hg⟩
