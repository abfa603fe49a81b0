theorem kB_7x : True := trivial
theorem ww_94 : Cond.methodLink "LeanedOutLaw" 9 yX10_init ∈ e_big := bw (i := 94) (by decide +kernel) rfl
theorem ww_95 : Cond.instanceMethod yX10_init ∈ e_big := bw (i := 95) (by decide +kernel) rfl
theorem ww_96 : Cond.code yX10_init cX10_init 3 none ∈ e_big := bw (i := 96) (by decide +kernel) rfl
theorem cw_L_9 : ∀ w ∈ ([.methodLink "LeanedOutLaw" 9 yX10_init, .instanceMethod yX10_init, .initialized RX10, Cond.code yX10_init cX10_init 3 none] : List Cond), w ∈ e_big := e_all4 ww_94 ww_95 ww_73 ww_96
theorem ww_910 : Cond.methodLink "LeanedOutLaw" 12 yX11_init ∈ e_big := bw (i := 910) (by decide +kernel) rfl
theorem ww_911 : Cond.instanceMethod yX11_init ∈ e_big := bw (i := 911) (by decide +kernel) rfl
theorem ww_912 : Cond.code yX11_init cX11_init 2 none ∈ e_big := List.mem_filter.mpr ⟨List.mem_append_right _ (by unfold tables_1; exact List.mem_append_right _ (List.mem_append_right _ (List.mem_append_right _ (List.mem_append_left _ (List.mem_of_getElem? (i := 120) rfl))))), rfl⟩
theorem cw_L_12 : ∀ w ∈ ([.methodLink "LeanedOutLaw" 12 yX11_init, .instanceMethod yX11_init, .initialized RX11, Cond.code yX11_init cX11_init 2 none] : List Cond), w ∈ e_big := e_all4 ww_910 ww_911 ww_89 ww_912
theorem ww_92 : Cond.classLink "LeanedOutLaw" 7 RX10 ∈ e_big := bw (i := 92) (by decide +kernel) rfl
theorem ww_93 : Cond.instantiable RX10 12 ∈ e_big := bw (i := 93) (by decide +kernel) rfl
theorem ww_908 : Cond.classLink "LeanedOutLaw" 10 RX11 ∈ e_big := bw (i := 908) (by decide +kernel) rfl
theorem ww_909 : Cond.instantiable RX11 35 ∈ e_big := bw (i := 909) (by decide +kernel) rfl
theorem e_Now.congr {D : va_G} {A : Nat → Prop} {E : e_E} {h h' : e_H} {s : State} {H : Heap} {locs : List Loc} (N : e_Now D A E h s H locs) (h1 : h'.1.1 = h.1.1) (h2 : ∀ k, k < h.1.1 → h'.1.2 k = h.1.2 k ∧ h'.2.1 k = h.2.1 k ∧ h'.2.2 k = h.2.2 k) (hw : e_wf h') : e_Now D A E h' s H locs := by
  have e1 : e_ws E h' = e_ws E h := by
    unfold e_ws
    rw [h1]
    apply List.map_congr_left
    intro k hk
    have hk := List.mem_range.mp hk
    obtain ⟨q1, q2, q3⟩ := h2 k hk
    unfold e_c
    rw [q1, q2, q3]
  obtain ⟨hP, hD, hS, hK, hStr, hn, hA⟩ := N
  refine ⟨by unfold e_P; rw [e1]; exact hP, by rw [e1]; exact hD, hS, ⟨hK.1, fun k hk q => ?_, hK.2.2.1, hw⟩, hStr, by rw [h1]; exact hn, hA⟩
  rw [h1] at hk
  rw [(h2 k hk).1] at q ⊢
  exact hK.2.1 k hk q
theorem e_of_one {S : e_S} {g : e_G} {kd len : Nat} : (e_of S g [((kd, len), [], [])]).1.1 = (e_new (S, g) kd len).1.1 ∧ ∀ k, k < (e_new (S, g) kd len).1.1 → (e_of S g [((kd, len), [], [])]).1.2 k = (e_new (S, g) kd len).1.2 k ∧ (e_of S g [((kd, len), [], [])]).2.1 k = (e_new (S, g) kd len).2.1 k ∧ (e_of S g [((kd, len), [], [])]).2.2 k = (e_new (S, g) kd len).2.2 k := by
  refine ⟨rfl, fun k hk => ?_⟩
  have hk : k < S.1 + 1 := hk
  by_cases h : k < S.1
  · have hne : k ≠ S.1 := by omega
    simp [e_of, e_new, h, hne]
  · have he : k = S.1 := by omega
    subst he
    simp [e_of, e_new]
theorem e_of_wf {S : e_S} {g : e_G} (hw : ∀ k j b, k < S.1 → g.2 k j = some b → b < S.1) {kd len : Nat} : e_wf (e_of S g [((kd, len), [], [])]) := by
  intro k j b h
  have h : (if k < S.1 then g.2 k else fun j => (([((kd, len), [], [])] : List e_cl).getD (k - S.1) e_d0).2.2.lookup j) j = some b := h
  show b < S.1 + 1
  split at h
  next hk => exact Nat.lt_succ_of_lt (hw k j b hk h)
  next hk =>
    exfalso
    match hq : k - S.1, h with
    | 0, h => cases h
    | n + 1, h => cases h
def SX : e_S := (e_of h00.1 h00.2 hx_160).1
def gX : e_G := (e_of h00.1 h00.2 hx_160).2
def SS : e_S := (e_of SX h00.2 hm_183).1
def gM (k : e_G) : e_G := (e_of SX k hm_183).2
theorem law_i7 {Ln i : Nat} (hL : Ln ≤ 3584) (hi : i ≤ Ln + 7) (h : ¬ Int32.ofNat Ln - 7 < nI i) : i + 7 ≤ Ln := by
  have h7 : (7 : Int32) = nI 7 := by decide +kernel
  have e1 : (Int32.ofNat Ln - (7 : Int32)).toInt = (Ln : Int) - 7 := by
    rw [h7]
    exact pk_sub_toInt (a := Ln) (b := 7) (by omega) (by omega)
  have e2 : (nI i).toInt = (i : Int) := nI_toInt (by omega)
  rw [Int32.lt_iff_toInt_lt, e1, e2] at h
  omega
theorem law_loop {l : Launch} {D : va_G} {p : Program} {e : Env} {s : State} {m : MethodId} {below : List Frame} {meth : Method} {c : Code} {b Ln : Nat} {xs : Nat → Int32} {Inv : e_G → Prop} (C0 : lw_At p s m meth c b Ln xs) (hL : Ln ≤ 3584) (ok : OK_all SS Inv) : ∀ (n i : Nat) (g : e_G), i ≤ Ln + 7 → Ln + 8 - i ≤ n → Inv g → LX l D p e s m below meth c b 18 [(0, .ref 4000000), (1, .ref 0), (2, .ref 76), (3, .int (nI i))] [] (SS, g) := by
  obtain ⟨o0, o1, o2, o3, o4, o5, o6, o7, o8, o9, o10, o11, o12, o13, o14, o15, o16, o17, o18, o19, o20, o21, o22, o23, o24, o25, o26, o27, o28, o29, o30, o31, o32, o33, o34, o35, o36⟩ := ok
  intro n
  induction n with
  | zero => intro i g h1 h2; omega
  | succ n ih =>
    intro i g h1 h2 hI
    refine LX.iload_n C0 dL_law_18 rfl (j := 3) rfl ?_
    refine LX.aload_n C0 dL_law_19 rfl (j := 0) rfl ?_
    refine LX.slen C0 dL_law_20 ?_
    refine LX.bipush C0 dL_law_21 kB_7 ?_
    refine LX.isub C0 dL_law_23 ?_
    refine LX.icmp_gt C0 dL_law_24 (tgt := 1437) rfl (fun hc => ?_) (fun hc => ?_)
    · refine LX.iconst C0 dL_law_1437 kI_1 ?_
      exact LX.ret1 C0 dL_law_1438
    · have hi : i + 7 ≤ Ln := law_i7 hL h1 hc
      have K : ∀ g2, Inv g2 → LX l D p e s m below meth c b 1431 [(0, .ref 4000000), (1, .ref 0), (2, .ref 76), (3, .int (nI i))] [] (SS, g2) := by
        intro g2 hI2
        refine LX.iinc (j := 3) C0 dL_law_1431 rfl (v := nI (i + 7)) (by rw [show Int32.ofInt 7 = nI 7 from by decide +kernel]; exact nI_add i 7) (by decide) (lc' := [(3, .int (nI (i + 7))), (0, .ref 4000000), (1, .ref 0), (2, .ref 76)]) rfl ?_
        refine LX.goto C0 dL_law_1434 (tgt := 18) rfl ?_
        refine LX.sub [1, 2, 3, 0] rfl ?_
        exact ih (i + 7) g2 (by omega) (by omega) hI2
      refine LX.aload_n C0 dL_law_27 rfl (j := 0) rfl ?_
      refine LX.iload_n C0 dL_law_28 rfl (j := 3) rfl ?_
      refine LX.sld C0 hL dL_law_29 (by omega) ?_
      refine LX.bipush C0 dL_law_30 kB_63 ?_
      refine LX.iand C0 dL_law_32 ?_
      by_cases q0 : xs i &&& 63 = (0 : Int32)
      · refine LX.tableIn C0 dL_law_33 (by rw [q0]; decide) (by rw [q0]; decide) (off := 163) (tgt := 196) (by rw [q0]; rfl) rfl ?_
        exact law_count C0 hL hi hI o0 K
      by_cases q1 : xs i &&& 63 = (1 : Int32)
      · refine LX.tableIn C0 dL_law_33 (by rw [q1]; decide) (by rw [q1]; decide) (off := 186) (tgt := 219) (by rw [q1]; rfl) rfl ?_
        exact law_dawn C0 hL hi hI o1 K
      by_cases q2 : xs i &&& 63 = (2 : Int32)
      · refine LX.tableIn C0 dL_law_33 (by rw [q2]; decide) (by rw [q2]; decide) (off := 209) (tgt := 242) (by rw [q2]; rfl) rfl ?_
        exact law_feed C0 hL hi hI o2 K
      by_cases q3 : xs i &&& 63 = (3 : Int32)
      · refine LX.tableIn C0 dL_law_33 (by rw [q3]; decide) (by rw [q3]; decide) (off := 284) (tgt := 317) (by rw [q3]; rfl) rfl ?_
        exact law_text C0 hL hi hI o3 K
      by_cases q4 : xs i &&& 63 = (4 : Int32)
      · refine LX.tableIn C0 dL_law_33 (by rw [q4]; decide) (by rw [q4]; decide) (off := 297) (tgt := 330) (by rw [q4]; rfl) rfl ?_
        exact law_force C0 hL hi hI o4 K
      by_cases q5 : xs i &&& 63 = (5 : Int32)
      · refine LX.tableIn C0 dL_law_33 (by rw [q5]; decide) (by rw [q5]; decide) (off := 320) (tgt := 353) (by rw [q5]; rfl) rfl ?_
        exact law_asks C0 hL hi hI o5 K
      by_cases q6 : xs i &&& 63 = (6 : Int32)
      · refine LX.tableIn C0 dL_law_33 (by rw [q6]; decide) (by rw [q6]; decide) (off := 353) (tgt := 386) (by rw [q6]; rfl) rfl ?_
        exact law_person C0 hL hi hI o6 K
      by_cases q7 : xs i &&& 63 = (7 : Int32)
      · refine LX.tableIn C0 dL_law_33 (by rw [q7]; decide) (by rw [q7]; decide) (off := 386) (tgt := 419) (by rw [q7]; rfl) rfl ?_
        exact law_put C0 hL hi hI o7 K
      by_cases q8 : xs i &&& 63 = (8 : Int32)
      · refine LX.tableIn C0 dL_law_33 (by rw [q8]; decide) (by rw [q8]; decide) (off := 429) (tgt := 462) (by rw [q8]; rfl) rfl ?_
        exact law_told C0 hL hi hI o8 K
      by_cases q9 : xs i &&& 63 = (9 : Int32)
      · refine LX.tableIn C0 dL_law_33 (by rw [q9]; decide) (by rw [q9]; decide) (off := 462) (tgt := 495) (by rw [q9]; rfl) rfl ?_
        exact law_street C0 hL hi hI o9 K
      by_cases q10 : xs i &&& 63 = (10 : Int32)
      · refine LX.tableIn C0 dL_law_33 (by rw [q10]; decide) (by rw [q10]; decide) (off := 485) (tgt := 518) (by rw [q10]; rfl) rfl ?_
        exact law_chain C0 hL hi hI o10 K
      by_cases q11 : xs i &&& 63 = (11 : Int32)
      · refine LX.tableIn C0 dL_law_33 (by rw [q11]; decide) (by rw [q11]; decide) (off := 508) (tgt := 541) (by rw [q11]; rfl) rfl ?_
        exact law_day C0 hL hi hI o11 K
      by_cases q12 : xs i &&& 63 = (12 : Int32)
      · refine LX.tableIn C0 dL_law_33 (by rw [q12]; decide) (by rw [q12]; decide) (off := 521) (tgt := 554) (by rw [q12]; rfl) rfl ?_
        exact law_callIn C0 hL hi hI o12 K
      by_cases q13 : xs i &&& 63 = (13 : Int32)
      · refine LX.tableIn C0 dL_law_33 (by rw [q13]; decide) (by rw [q13]; decide) (off := 544) (tgt := 577) (by rw [q13]; rfl) rfl ?_
        exact law_crane C0 hL hi hI o13 K
      by_cases q14 : xs i &&& 63 = (14 : Int32)
      · refine LX.tableIn C0 dL_law_33 (by rw [q14]; decide) (by rw [q14]; decide) (off := 577) (tgt := 610) (by rw [q14]; rfl) rfl ?_
        exact law_run C0 hL hi hI o14 K
      by_cases q15 : xs i &&& 63 = (15 : Int32)
      · refine LX.tableIn C0 dL_law_33 (by rw [q15]; decide) (by rw [q15]; decide) (off := 610) (tgt := 643) (by rw [q15]; rfl) rfl ?_
        exact law_keeps C0 hL hi hI o15 K
      by_cases q16 : xs i &&& 63 = (16 : Int32)
      · refine LX.tableIn C0 dL_law_33 (by rw [q16]; decide) (by rw [q16]; decide) (off := 633) (tgt := 666) (by rw [q16]; rfl) rfl ?_
        exact law_turn C0 hL hi hI o16 K
      by_cases q17 : xs i &&& 63 = (17 : Int32)
      · refine LX.tableIn C0 dL_law_33 (by rw [q17]; decide) (by rw [q17]; decide) (off := 656) (tgt := 689) (by rw [q17]; rfl) rfl ?_
        exact law_safe C0 hL hi hI o17 K
      by_cases q18 : xs i &&& 63 = (18 : Int32)
      · refine LX.tableIn C0 dL_law_33 (by rw [q18]; decide) (by rw [q18]; decide) (off := 689) (tgt := 722) (by rw [q18]; rfl) rfl ?_
        exact law_warn C0 hL hi hI o18 K
      by_cases q19 : xs i &&& 63 = (19 : Int32)
      · refine LX.tableIn C0 dL_law_33 (by rw [q19]; decide) (by rw [q19]; decide) (off := 722) (tgt := 755) (by rw [q19]; rfl) rfl ?_
        exact law_untangle C0 hL hi hI o19 K
      by_cases q20 : xs i &&& 63 = (20 : Int32)
      · refine LX.tableIn C0 dL_law_33 (by rw [q20]; decide) (by rw [q20]; decide) (off := 755) (tgt := 788) (by rw [q20]; rfl) rfl ?_
        exact law_strain C0 hL hi hI o20 K
      by_cases q21 : xs i &&& 63 = (21 : Int32)
      · refine LX.tableIn C0 dL_law_33 (by rw [q21]; decide) (by rw [q21]; decide) (off := 789) (tgt := 822) (by rw [q21]; rfl) rfl ?_
        exact law_judge C0 hL hi hI o21 K
      by_cases q22 : xs i &&& 63 = (22 : Int32)
      · refine LX.tableIn C0 dL_law_33 (by rw [q22]; decide) (by rw [q22]; decide) (off := 822) (tgt := 855) (by rw [q22]; rfl) rfl ?_
        exact law_kinds C0 hL hi hI o22 K
      by_cases q23 : xs i &&& 63 = (23 : Int32)
      · refine LX.tableIn C0 dL_law_33 (by rw [q23]; decide) (by rw [q23]; decide) (off := 865) (tgt := 898) (by rw [q23]; rfl) rfl ?_
        exact law_windows C0 hL hi hI o23 K
      by_cases q24 : xs i &&& 63 = (24 : Int32)
      · refine LX.tableIn C0 dL_law_33 (by rw [q24]; decide) (by rw [q24]; decide) (off := 908) (tgt := 941) (by rw [q24]; rfl) rfl ?_
        exact law_leans C0 hL hi hI o24 K
      by_cases q25 : xs i &&& 63 = (25 : Int32)
      · refine LX.tableIn C0 dL_law_33 (by rw [q25]; decide) (by rw [q25]; decide) (off := 951) (tgt := 984) (by rw [q25]; rfl) rfl ?_
        exact law_whose C0 hL hi hI o25 K
      by_cases q26 : xs i &&& 63 = (26 : Int32)
      · refine LX.tableIn C0 dL_law_33 (by rw [q26]; decide) (by rw [q26]; decide) (off := 974) (tgt := 1007) (by rw [q26]; rfl) rfl ?_
        exact law_laws C0 hL hi hI o26 K
      by_cases q27 : xs i &&& 63 = (27 : Int32)
      · refine LX.tableIn C0 dL_law_33 (by rw [q27]; decide) (by rw [q27]; decide) (off := 1007) (tgt := 1040) (by rw [q27]; rfl) rfl ?_
        exact law_film C0 hL hi hI o27 K
      by_cases q28 : xs i &&& 63 = (28 : Int32)
      · refine LX.tableIn C0 dL_law_33 (by rw [q28]; decide) (by rw [q28]; decide) (off := 1050) (tgt := 1083) (by rw [q28]; rfl) rfl ?_
        exact law_drawn C0 hL hi hI o28 K
      by_cases q29 : xs i &&& 63 = (29 : Int32)
      · refine LX.tableIn C0 dL_law_33 (by rw [q29]; decide) (by rw [q29]; decide) (off := 1083) (tgt := 1116) (by rw [q29]; rfl) rfl ?_
        exact law_odds C0 hL hi hI o29 K
      by_cases q30 : xs i &&& 63 = (30 : Int32)
      · refine LX.tableIn C0 dL_law_33 (by rw [q30]; decide) (by rw [q30]; decide) (off := 1137) (tgt := 1170) (by rw [q30]; rfl) rfl ?_
        exact law_image C0 hL hi hI o30 K
      by_cases q31 : xs i &&& 63 = (31 : Int32)
      · refine LX.tableIn C0 dL_law_33 (by rw [q31]; decide) (by rw [q31]; decide) (off := 1150) (tgt := 1183) (by rw [q31]; rfl) rfl ?_
        exact law_back C0 hL hi hI o31 K
      by_cases q32 : xs i &&& 63 = (32 : Int32)
      · refine LX.tableIn C0 dL_law_33 (by rw [q32]; decide) (by rw [q32]; decide) (off := 1163) (tgt := 1196) (by rw [q32]; rfl) rfl ?_
        exact law_sheet C0 hL hi hI o32 K
      by_cases q33 : xs i &&& 63 = (33 : Int32)
      · refine LX.tableIn C0 dL_law_33 (by rw [q33]; decide) (by rw [q33]; decide) (off := 1206) (tgt := 1239) (by rw [q33]; rfl) rfl ?_
        exact law_cell C0 hL hi hI o33 K
      by_cases q34 : xs i &&& 63 = (34 : Int32)
      · refine LX.tableIn C0 dL_law_33 (by rw [q34]; decide) (by rw [q34]; decide) (off := 1249) (tgt := 1282) (by rw [q34]; rfl) rfl ?_
        exact law_copy C0 hL hi hI o34 K
      by_cases q35 : xs i &&& 63 = (35 : Int32)
      · refine LX.tableIn C0 dL_law_33 (by rw [q35]; decide) (by rw [q35]; decide) (off := 1312) (tgt := 1345) (by rw [q35]; rfl) rfl ?_
        exact law_peopleBy C0 hL hi hI o35 K
      by_cases q36 : xs i &&& 63 = (36 : Int32)
      · refine LX.tableIn C0 dL_law_33 (by rw [q36]; decide) (by rw [q36]; decide) (off := 1365) (tgt := 1398) (by rw [q36]; rfl) rfl ?_
        exact law_taken C0 hL hi hI o36 K
      refine LX.tableOut C0 dL_law_33 (tgt := 1431) (by have r0 := e_ne (z := 0) (by decide) q0; have r1 := e_ne (z := 1) (by decide) q1; have r2 := e_ne (z := 2) (by decide) q2; have r3 := e_ne (z := 3) (by decide) q3; have r4 := e_ne (z := 4) (by decide) q4; have r5 := e_ne (z := 5) (by decide) q5; have r6 := e_ne (z := 6) (by decide) q6; have r7 := e_ne (z := 7) (by decide) q7; have r8 := e_ne (z := 8) (by decide) q8; have r9 := e_ne (z := 9) (by decide) q9; have r10 := e_ne (z := 10) (by decide) q10; have r11 := e_ne (z := 11) (by decide) q11; have r12 := e_ne (z := 12) (by decide) q12; have r13 := e_ne (z := 13) (by decide) q13; have r14 := e_ne (z := 14) (by decide) q14; have r15 := e_ne (z := 15) (by decide) q15; have r16 := e_ne (z := 16) (by decide) q16; have r17 := e_ne (z := 17) (by decide) q17; have r18 := e_ne (z := 18) (by decide) q18; have r19 := e_ne (z := 19) (by decide) q19; have r20 := e_ne (z := 20) (by decide) q20; have r21 := e_ne (z := 21) (by decide) q21; have r22 := e_ne (z := 22) (by decide) q22; have r23 := e_ne (z := 23) (by decide) q23; have r24 := e_ne (z := 24) (by decide) q24; have r25 := e_ne (z := 25) (by decide) q25; have r26 := e_ne (z := 26) (by decide) q26; have r27 := e_ne (z := 27) (by decide) q27; have r28 := e_ne (z := 28) (by decide) q28; have r29 := e_ne (z := 29) (by decide) q29; have r30 := e_ne (z := 30) (by decide) q30; have r31 := e_ne (z := 31) (by decide) q31; have r32 := e_ne (z := 32) (by decide) q32; have r33 := e_ne (z := 33) (by decide) q33; have r34 := e_ne (z := 34) (by decide) q34; have r35 := e_ne (z := 35) (by decide) q35; have r36 := e_ne (z := 36) (by decide) q36; omega) rfl ?_
      exact K g hI
/-- the law, out of what the calls are shown to do: an invariant that the start has, that every call keeps, under which both answer alike -/
theorem whole_of {Inv : e_G → Prop} (ok : OK_all SS Inv) {k1 k2 : e_G} (hk1 : J_X10_init_224 SX 0 gX = some k1) (hk2 : J_X11_init_1002 SS 76 (gM k1) = some k2) (hI : Inv k2) {p : Program} {e : Env} {s : State} {m : MethodId} {below : List Frame} {meth : Method} {c : Code} (l : Launch) {b L : Nat} {xs : Nat → Int32} (hL : L ≤ 3584) (C0 : lw_At p s m meth c b L xs) : W p l e room_1 s m #[Value.ref b] below meth c s.heap [] 0 0 (lw_Z below #[Value.ref b] s) (entryFrame m ([Value.ref b] : List Value).toArray 4) := by
  obtain ⟨hx, hb, hr, hml, hown, hts, hX, hbl, hlocks, hgv⟩ := id C0
  obtain ⟨D, E, N, hb4⟩ := e_start hts hgv
  have hbig : ∀ w ∈ e_big, w.before #[Value.ref b] s = true := fun w hw => hts w (List.mem_filter.mp hw).1
  have hl := lv_entry ([.ref b]) (n := 4) (Nat.le_of_ble_eq_true rfl)
  rw [lg_entry_eq]
  generalize (lg_sl ([.ref b]) ++ List.replicate (4 - (lg_sl ([.ref b])).length) Slot.unset).toArray = ls at hl ⊢
  have hl : lv_has ls 4 [(0, .ref b)] := hl
  -- new LeanedOut()
  refine e_newW (own := R_law) (ci := 10) (R := room_1) (E := E) (h := h00) hx hb hown hbig N dL_law_0 (by decide) ww_92 ww_93 ww_73 (by decide) (by show 0 + 1 ≤ 600000; omega) (by show 0 + 12 ≤ 7302249; omega) (fun q H1 N1 => ?_)
  refine lv_dup hx hb dL_law_3 rfl ?_
  have N1 : e_Now D (fun q : Nat => s.heap.size ≤ q) (e_Enew E 0 q 0) (e_of h00.1 h00.2 hx_1) s H1 [] := by
    refine N1.congr (e_of_one (S := h00.1) (g := h00.2) (kd := 20) (len := 12)).1 (e_of_one (S := h00.1) (g := h00.2) (kd := 20) (len := 12)).2 (e_of_wf (fun k j b hk => absurd hk (Nat.not_lt_zero _)))
  have hc1 : CT l D (e_RR 74 75 3458) M_X10_init [.ref 0] (e_of h00.1 h00.2 hx_1) none (SX, k1) := c_X10_init (S0 := h00.1) (g0 := h00.2) rfl hk1
  have hb5 : (e_Enew E 0 q 0).1 4000000 = b := by simp [e_Enew, hb4]
  generalize hE1 : e_Enew E 0 q 0 = E1 at N1 hb5
  have hq : E1.1 0 = q := by rw [← hE1]; simp [e_Enew]
  rw [← hq]
  have hcw1 := cwI (R := room_1) (s := s) (args := #[Value.ref b]) (own := R_law) (index := 9) (y := yX10_init) (bytes := cX10_init) (maxL := 3) (mc := 75) (ms := 3458) (rm := e_RR 74 75 3458) (ws := Cond.code yX10_init cX10_init 3 none :: e_big) (ws' := e_big) 0 hbig (e_goodIn (fun w hq => by
    rcases List.mem_cons.mp hq with hq | hq
    · rw [hq]; exact cw_L_9 _ (List.mem_of_getElem? (i := 3) rfl)
    · exact hq)) rfl rfl rfl (hbig _ (cw_L_9 _ (List.mem_of_getElem? (i := 2) rfl))) (hbig _ (cw_L_9 _ (List.mem_of_getElem? (i := 0) rfl))) (hbig _ (cw_L_9 _ (List.mem_of_getElem? (i := 1) rfl))) rfl mk_X10_init ⟨by show 74 + 1 ≤ 2048; omega, by show 8 + (3 + 11) + 64 * 74 ≤ 84000; omega⟩
  have hrun1 := va_runI (p := p) (e := e) (below := below) (meth := meth) (H := H1) (locs := []) (cells := 0 + 1) (slots := 0 + 12) (As := []) (b := E1.1 0) (rest := [.ref (E1.1 0)]) (g := F0 m (0 + 3 + 1) ls [.ref (E1.1 0), .ref (E1.1 0)]) ⟨hx, hb, hml, hown, hbig⟩ (hc1 E1 H1.size) hcw1
    ⟨e_blind, fun U hU hW => ⟨rfl, e_Pc_ok N1 hU hW⟩⟩ rfl rfl hl.1 rfl (lv_room (Nat.le_of_ble_eq_true rfl)) dL_law_4 ⟨by show 0 + 1 + 75 ≤ 600000; omega, by show 0 + 12 + 3458 ≤ 7302249; omega⟩
  refine e_call N1 hrun1 (fun E2 H2 locs2 N2 hx2 => ?_)
  have hb6 : E2.1 4000000 = b := ((hx2.2.2 4000000 (by have : SX.1 = 76 := by decide +kernel
                                                       show ¬ (_ ≤ 4000000 ∧ 4000000 < SX.1)
                                                       omega)).1).trans hb5
  have hq2 : E2.1 0 = E1.1 0 := (hx2.2.2 0 (by show ¬ (0 + 1 ≤ 0 ∧ _); omega)).1
  refine lv_astore_n (lv' := [(1, .ref (E1.1 0)), (0, .ref b)]) hx hb dL_law_7 rfl hl (by decide) rfl (fun ls hl => ?_)
  rw [← hq2] at hl
  -- new LeanedOutModel()
  refine e_newW (own := R_law) (ci := 11) (R := room_1) (E := E2) (h := (SX, k1)) hx hb hown hbig N2 dL_law_8 (by decide) ww_908 ww_909 ww_89 (by show SX.1 + 1 ≤ 1000000; decide +kernel) (by show 0 + 1 + 75 + 1 ≤ 600000; omega) (by show 0 + 12 + 3458 + 35 ≤ 7302249; omega) (fun q3 H3 N3 => ?_)
  refine lv_dup hx hb dL_law_11 rfl ?_
  have hS76 : SX.1 = 76 := by decide +kernel
  have N3 : e_Now D (fun q : Nat => s.heap.size ≤ q) (e_Enew E2 76 q3 0) (e_of SX k1 hm_1) s H3 locs2 := by
    have := N3.congr (e_of_one (S := SX) (g := k1) (kd := 21) (len := 35)).1 (e_of_one (S := SX) (g := k1) (kd := 21) (len := 35)).2 (e_of_wf (fun k j b _ h => N2.2.2.2.1.2.2.2 k j b h))
    rw [show ((SX, k1) : e_H).1.1 = 76 from hS76] at this
    exact this
  have hc2 : CT l D (e_RR 6 19 2198) M_X11_init [.ref 76] (e_of SX k1 hm_1) none (SS, k2) := c_X11_init (S0 := SX) (g0 := k1) hS76 hk2
  have hb7 : (e_Enew E2 76 q3 0).1 4000000 = b := by simp [e_Enew, hb6]
  have hq4 : (e_Enew E2 76 q3 0).1 0 = E2.1 0 := by simp [e_Enew]
  generalize hE3 : e_Enew E2 76 q3 0 = E3 at N3 hb7 hq4
  have hq3 : E3.1 76 = q3 := by rw [← hE3]; simp [e_Enew]
  rw [← hq3]
  have hcw2 := cwI (R := room_1) (s := s) (args := #[Value.ref b]) (own := R_law) (index := 12) (y := yX11_init) (bytes := cX11_init) (maxL := 2) (mc := 19) (ms := 2198) (rm := e_RR 6 19 2198) (ws := Cond.code yX11_init cX11_init 2 none :: e_big) (ws' := e_big) 0 hbig (e_goodIn (fun w hq => by
    rcases List.mem_cons.mp hq with hq | hq
    · rw [hq]; exact cw_L_12 _ (List.mem_of_getElem? (i := 3) rfl)
    · exact hq)) rfl rfl rfl (hbig _ (cw_L_12 _ (List.mem_of_getElem? (i := 2) rfl))) (hbig _ (cw_L_12 _ (List.mem_of_getElem? (i := 0) rfl))) (hbig _ (cw_L_12 _ (List.mem_of_getElem? (i := 1) rfl))) rfl mk_X11_init ⟨by show 6 + 1 ≤ 2048; omega, by show 8 + (2 + 11) + 64 * 6 ≤ 84000; omega⟩
  have hrun2 := va_runI (p := p) (e := e) (below := below) (meth := meth) (H := H3) (locs := locs2) (cells := 0 + 1 + 75 + 1) (slots := 0 + 12 + 3458 + 35) (As := []) (b := E3.1 76) (rest := [.ref (E3.1 76)]) (g := F0 m (0 + 3 + 1 + 3 + 1 + 3 + 1) ls [.ref (E3.1 76), .ref (E3.1 76)]) ⟨hx, hb, hml, hown, hbig⟩ (hc2 E3 H3.size) hcw2
    ⟨e_blind, fun U hU hW => ⟨rfl, e_Pc_ok N3 hU hW⟩⟩ rfl rfl hl.1 rfl (lv_room (Nat.le_of_ble_eq_true rfl)) dL_law_12 ⟨by show 0 + 1 + 75 + 1 + 19 ≤ 600000; omega, by show 0 + 12 + 3458 + 35 + 2198 ≤ 7302249; omega⟩
  refine e_call N3 hrun2 (fun E4 H4 locs4 N4 hx4 => ?_)
  have hb8 : E4.1 4000000 = b := ((hx4.2.2 4000000 (by have : SS.1 = 96 := by decide +kernel
                                                       show ¬ (_ ≤ 4000000 ∧ 4000000 < SS.1)
                                                       omega)).1).trans hb7
  have hq5 : E4.1 0 = E3.1 0 := (hx4.2.2 0 (by show ¬ (SX.1 + 1 ≤ 0 ∧ _); omega)).1
  have hq6 : E4.1 76 = E3.1 76 := (hx4.2.2 76 (by show ¬ (SX.1 + 1 ≤ 76 ∧ _); omega)).1
  refine lv_astore_n (lv' := [(2, .ref (E3.1 76)), (1, .ref (E2.1 0)), (0, .ref b)]) hx hb dL_law_15 rfl hl (by decide) rfl (fun ls hl => ?_)
  rw [← hq6, ← hq4, ← hq5, ← hb8] at hl
  refine lv_iconst (v := 0) hx hb dL_law_16 (by decide) ?_
  refine lv_istore_n (lv' := [(3, .int 0), (2, .ref (E4.1 76)), (1, .ref (E4.1 0)), (0, .ref (E4.1 4000000))]) hx hb dL_law_17 rfl hl (by decide) rfl (fun ls hl => ?_)
  exact law_loop C0 hL ok (L + 8) 0 k2 (by omega) (by omega) hI H4 locs4 _ _ E4 ls N4 hb8 (lv_sub hl [3, 2, 1, 0] rfl) (by show 0 + 1 + 75 + 1 + 19 ≤ 96; omega) (by show 0 + 12 + 3458 + 35 + 2198 ≤ 5703; omega)
