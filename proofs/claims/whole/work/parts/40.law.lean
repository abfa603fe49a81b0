/-! THE LAW'S START: the empty world -/
def h00 : e_H := ((0, fun _ => (0, 0)), (fun _ _ => 0, fun _ _ => none))
def e_tm (i : Nat) : Term := .string (e_str.getD i ("", 0, "")).1 (e_str.getD i ("", 0, "")).2.1
def nar_flat : List Cond := flatC (Jvm.Cond.and given_1 narrow_1)
theorem e_inst : ∀ ci, ci < 12 → Cond.instantiable (e_C ci).1 (e_C ci).2.2 ∈ e_big := by decide +kernel
def n_ex_k : List Nat := [128, 176, 185, 197, 210, 221, 237, 251, 267, 284, 302, 319, 336]
theorem n_ex_c : ∀ i, i < e_nS → nar_flat[n_ex_k.getD i 0]? = some (Cond.exactly (e_tm i) "java/lang/String") := by decide +kernel
theorem n_ex : ∀ i, i < e_nS → Cond.exactly (e_tm i) "java/lang/String" ∈ nar_flat := fun i hi => List.mem_of_getElem? (n_ex_c i hi)
def n_co_k : List Nat := [129, 177, 186, 198, 211, 222, 238, 252, 268, 285, 303, 320, 337]
theorem n_co_c : ∀ i, i < e_nS → nar_flat[n_co_k.getD i 0]? = some (Cond.eq (.field (e_tm i) "java/lang/String" "coder" "B") (.int 0)) := by decide +kernel
theorem n_co : ∀ i, i < e_nS → Cond.eq (.field (e_tm i) "java/lang/String" "coder" "B") (.int 0) ∈ nar_flat := fun i hi => List.mem_of_getElem? (n_co_c i hi)
def n_ar_k : List Nat := [130, 178, 187, 199, 212, 223, 239, 253, 269, 286, 304, 321, 338]
theorem n_ar_c : ∀ i, i < e_nS → nar_flat[n_ar_k.getD i 0]? = some (Cond.arrayOf (.field (e_tm i) "java/lang/String" "value" "[B") .byte) := by decide +kernel
theorem n_ar : ∀ i, i < e_nS → Cond.arrayOf (.field (e_tm i) "java/lang/String" "value" "[B") .byte ∈ nar_flat := fun i hi => List.mem_of_getElem? (n_ar_c i hi)
def n_le_k : List Nat := [131, 179, 188, 200, 213, 224, 240, 254, 270, 287, 305, 322, 339]
theorem n_le_c : ∀ i, i < e_nS → nar_flat[n_le_k.getD i 0]? = some (Cond.eq (.length (.field (e_tm i) "java/lang/String" "value" "[B")) (.int (Int32.ofNat (e_len.getD i 0)))) := by decide +kernel
theorem n_le : ∀ i, i < e_nS → Cond.eq (.length (.field (e_tm i) "java/lang/String" "value" "[B")) (.int (Int32.ofNat (e_len.getD i 0))) ∈ nar_flat := fun i hi => List.mem_of_getElem? (n_le_c i hi)
def n_el_k : List (List Nat) := [[132, 133, 134, 135, 136, 137, 138, 139, 140, 141, 142, 143, 144, 145, 146, 147, 148, 149, 150, 151, 152, 153, 154, 155, 156, 157, 158, 159, 160, 161, 162, 163, 164, 165, 166, 167, 168, 169, 170, 171, 172, 173, 174, 175], [180, 181, 182, 183], [189, 190, 191, 192, 193, 194], [201, 202, 203, 204, 205, 206], [214, 215, 216], [225, 226, 227, 228, 229, 230, 231], [241, 242, 243, 244], [255, 256, 257, 258, 259], [271, 272, 273, 274, 275], [288, 289, 290, 291, 292], [306, 307, 308], [323, 324], [340, 341, 342]]
theorem n_el_c : ∀ i, i < e_nS → ∀ j, j < e_len.getD i 0 → nar_flat[(n_el_k.getD i []).getD j 0]? = some (Cond.eq (.elem (.field (e_tm i) "java/lang/String" "value" "[B") (.int (Int32.ofNat j))) (.int ((e_byt.getD i []).getD j 0))) := by decide +kernel
theorem n_el : ∀ i, i < e_nS → ∀ j, j < e_len.getD i 0 → Cond.eq (.elem (.field (e_tm i) "java/lang/String" "value" "[B") (.int (Int32.ofNat j))) (.int ((e_byt.getD i []).getD j 0)) ∈ nar_flat := fun i hi j hj => List.mem_of_getElem? (n_el_c i hi j hj)
def n_ne_k : List (Nat × Nat × Nat) := [(0, 1, 184), (0, 2, 195), (0, 3, 207), (0, 4, 217), (0, 5, 232), (0, 6, 245), (0, 7, 260), (0, 8, 276), (0, 9, 293), (0, 10, 309), (0, 11, 325), (0, 12, 343), (1, 2, 196), (1, 3, 208), (1, 4, 218), (1, 5, 233), (1, 6, 246), (1, 7, 261), (1, 8, 277), (1, 9, 294), (1, 10, 310), (1, 11, 326), (1, 12, 344), (2, 3, 209), (2, 4, 219), (2, 5, 234), (2, 6, 247), (2, 7, 262), (2, 8, 278), (2, 9, 295), (2, 10, 311), (2, 11, 327), (2, 12, 345), (3, 4, 220), (3, 5, 235), (3, 6, 248), (3, 7, 263), (3, 8, 279), (3, 9, 296), (3, 10, 312), (3, 11, 328), (3, 12, 346), (4, 5, 236), (4, 6, 249), (4, 7, 264), (4, 8, 280), (4, 9, 297), (4, 10, 313), (4, 11, 329), (4, 12, 347), (5, 6, 250), (5, 7, 265), (5, 8, 281), (5, 9, 298), (5, 10, 314), (5, 11, 330), (5, 12, 348), (6, 7, 266), (6, 8, 282), (6, 9, 299), (6, 10, 315), (6, 11, 331), (6, 12, 349), (7, 8, 283), (7, 9, 300), (7, 10, 316), (7, 11, 332), (7, 12, 350), (8, 9, 301), (8, 10, 317), (8, 11, 333), (8, 12, 351), (9, 10, 318), (9, 11, 334), (9, 12, 352), (10, 11, 335), (10, 12, 353), (11, 12, 354)]
theorem n_ne_c : ∀ q ∈ n_ne_k, nar_flat[q.2.2]? = some (Cond.not (Cond.eq (e_tm q.1) (e_tm q.2.1))) := by decide +kernel
theorem n_ne_d : ∀ i, i < e_nS → ∀ j, j < e_nS → i ≠ j → (∃ q ∈ n_ne_k, q.1 = i ∧ q.2.1 = j) ∨ (∃ q ∈ n_ne_k, q.1 = j ∧ q.2.1 = i) := by decide +kernel
theorem n_ne : ∀ i, i < e_nS → ∀ j, j < e_nS → i ≠ j → (Cond.not (Cond.eq (e_tm i) (e_tm j)) ∈ nar_flat ∨ Cond.not (Cond.eq (e_tm j) (e_tm i)) ∈ nar_flat) := by
  intro i hi j hj h
  rcases n_ne_d i hi j hj h with ⟨q, hq, h1, h2⟩ | ⟨q, hq, h1, h2⟩
  · exact Or.inl (by rw [← h1, ← h2]; exact List.mem_of_getElem? (n_ne_c q hq))
  · exact Or.inr (by rw [← h1, ← h2]; exact List.mem_of_getElem? (n_ne_c q hq))
theorem n_nc : ∀ q ∈ e_ncast, Cond.not (Cond.castable q.1 q.2) ∈ nar_flat := by decide +kernel
theorem n_cs : Cond.eq (.static "java/lang/String" "COMPACT_STRINGS" "Z") (.int 1) ∈ nar_flat := by decide +kernel
theorem n_fm : Cond.isRef (.static "jdk/internal/util/Preconditions" "SIOOBE_FORMATTER" "Ljava/util/function/BiFunction;") ∈ nar_flat := by decide +kernel
theorem t_sr : ∀ i, i < e_nS → Cond.stringRef (e_str.getD i ("", 0, "")).1 (e_str.getD i ("", 0, "")).2.1 (e_str.getD i ("", 0, "")).2.2 ∈ lw_tbl := by decide +kernel
theorem t_ca : ∀ q ∈ e_cast, Cond.castable q.1 q.2 ∈ lw_tbl := by decide +kernel
theorem t_de : ∀ x ∈ e_decl, Cond.declares x ∈ lw_tbl := by decide +kernel
theorem t_ao : ∀ C ∈ ([RX9, RX3, RX6] : List String), Cond.arrayOver (.object C) ∈ lw_tbl := by decide +kernel
theorem t_ls : Cond.laysStatic "java/lang/String" "COMPACT_STRINGS" "Z" ∈ lw_tbl ∧ Cond.initialized "java/lang/String" ∈ lw_tbl ∧ Cond.laysStatic "jdk/internal/util/Preconditions" "SIOOBE_FORMATTER" "Ljava/util/function/BiFunction;" ∈ lw_tbl ∧ Cond.initialized "jdk/internal/util/Preconditions" ∈ lw_tbl := by decide +kernel
theorem e_lens : ∀ i, i < e_nS → e_len.getD i 0 < 2 ^ 31 := by decide +kernel
theorem e_str_len : e_str.length = e_nS := by decide +kernel
theorem e_cls_len : e_cls.length = 12 := by decide +kernel
theorem e_start {s : State} {b : Nat} (hts : ∀ w ∈ lw_tbl, w.before #[Value.ref b] s = true) (hgv : (Jvm.Cond.and given_1 narrow_1).before #[Value.ref b] s = true) : ∃ (D : va_G) (E : e_E), e_Now D (fun q : Nat => s.heap.size ≤ q) E h00 s s.heap [] ∧ E.1 4000000 = b := by
  have hn := flat_of_before _ hgv
  have hA : ∀ a : Nat, a < s.heap.size → ¬ (fun q : Nat => s.heap.size ≤ q) a := fun a h => Nat.not_le.mpr h
  have hb : ∀ w ∈ e_big, w.before #[Value.ref b] s = true := fun w hw => hts w (List.mem_filter.mp hw).1
  -- the classes
  have hk : ∀ ci : Nat, ∃ q : ClassId × (Nat → Nat), ci < 12 → u_Kn s (e_C ci).1 (e_C ci).2.1 (e_C ci).2.2 q.1 q.2 := by
    intro ci
    by_cases h : ci < 12
    · obtain ⟨cC, iS, hq⟩ := u_known hb (e_lays ci h) (hb _ (e_inst ci h))
      exact ⟨(cC, iS), fun _ => hq⟩
    · exact ⟨(0, fun _ => 0), fun z => absurd z h⟩
  obtain ⟨f, hf⟩ := Classical.axiomOfChoice hk
  -- the texts
  obtain ⟨adK, adV, hS, hE⟩ := vk_Sof (N := e_nS) (tm := e_tm) (len := e_len) (byt := e_byt) (A := fun q : Nat => s.heap.size ≤ q) e_lens (fun i hi => hn _ (n_ex i hi)) (fun i hi => hn _ (n_co i hi)) (fun i hi => hn _ (n_ar i hi)) (fun i hi => hn _ (n_le i hi)) (fun i hi j hj => hn _ (n_el i hi j hj)) (fun i j hi hj h => (n_ne i hi j hj h).imp (hn _) (hn _)) hA
  have hZ1 := va_Zof (A := fun q : Nat => s.heap.size ≤ q) (hts _ t_ls.1) (hts _ t_ls.2.1) (va_eqt (hn _ n_cs)) hA
  have hZ2 := va_Zqof (A := fun q : Nat => s.heap.size ≤ q) (hts _ t_ls.2.2.1) (hts _ t_ls.2.2.2) (hn _ n_fm) hA
  obtain ⟨z0, z1, hz⟩ : ∃ z0 z1 : Nat, va_Z "jdk/internal/util/Preconditions" "SIOOBE_FORMATTER" "Ljava/util/function/BiFunction;" (if z0 = 0 then .null else .ref z1) (fun q : Nat => s.heap.size ≤ q) s s.heap := by
    rcases hZ2 with h | ⟨t, h⟩
    · exact ⟨0, 0, h⟩
    · exact ⟨1, t, h⟩
  refine ⟨(fun ci => (f ci).1, fun ci => (f ci).2), (fun k => if k < 2000000 then adK (k - 1000000) else if k < 3000000 then adV (k - 2000000) else if k = 3000000 then z0 else if k = 3000001 then z1 else b, fun _ => 0), ⟨?_, ?_, va_S.rf, ⟨⟨?_, ?_⟩, ?_, ⟨?_, ?_, ?_, ?_⟩, ?_⟩, ⟨?_, ?_, hZ1, ?_⟩, Nat.zero_le _, fun _ h => h⟩, ?_⟩
  · intro k q h; simp [e_ws, h00] at h
  · exact ⟨fun i j x y h => by simp [e_ws, h00] at h, fun k q h => by simp [e_ws, h00] at h⟩
  · intro c q hq
    have hc : c < 12 := by rw [← e_cls_len]; exact (List.getElem?_eq_some_iff.mp hq).1
    rw [e_cls_at c hc] at hq
    cases hq
    exact hf c hc
  · intro k q h; simp at h
  · intro k h; exact absurd h (Nat.not_lt_zero _)
  · exact fun q hq => va_Nw.of rfl (hts _ (t_ca q hq))
  · exact fun q hq => va_Nc.of (hn _ (n_nc q hq))
  · exact fun x hx => va_Nw.of rfl (hts _ (t_de x hx))
  · exact fun C hC => va_AO.of (hts _ (t_ao C hC))
  · intro k j c h; cases h
  · refine ⟨fun i hi => ?_, fun i j hi hj h => ?_⟩
    · have h0 : e_nS = 13 := rfl
      have e1 : (if 1000000 + i < 2000000 then adK (1000000 + i - 1000000) else if 1000000 + i < 3000000 then adV (1000000 + i - 2000000) else if 1000000 + i = 3000000 then z0 else if 1000000 + i = 3000001 then z1 else b) = adK i := by
        rw [if_pos (by omega), show 1000000 + i - 1000000 = i by omega]
      have e2 : (if 2000000 + i < 2000000 then adK (2000000 + i - 1000000) else if 2000000 + i < 3000000 then adV (2000000 + i - 2000000) else if 2000000 + i = 3000000 then z0 else if 2000000 + i = 3000001 then z1 else b) = adV i := by
        rw [if_neg (by omega), if_pos (by omega), show 2000000 + i - 2000000 = i by omega]
      dsimp only
      rw [e1, e2]
      exact hS.1 i hi
    · have h0 : e_nS = 13 := rfl
      dsimp only at h
      rw [if_pos (by omega), if_pos (by omega), show 1000000 + i - 1000000 = i by omega, show 1000000 + j - 1000000 = j by omega] at h
      exact hS.2 i j hi hj h
  · intro i q hq
    have hi : i < e_nS := by rw [← e_str_len]; exact (List.getElem?_eq_some_iff.mp hq).1
    have h0 : e_nS = 13 := rfl
    have eq : e_str.getD i ("", 0, "") = q := by rw [List.getD_eq_getElem?_getD, hq]; rfl
    have h1 := hts _ (t_sr i hi)
    have h2 := hE i hi
    unfold e_tm at h2
    rw [eq] at h1 h2
    dsimp only
    rw [if_pos (by omega), show 1000000 + i - 1000000 = i by omega]
    have h3 : (Term.string q.1 q.2.1).eval #[] s none [] s = some (.ref (adK i)) := h2
    have h4 : (Cond.stringRef q.1 q.2.1 q.2.2).before #[] s = true := h1
    exact ⟨h4, h3⟩
  · have : e_v ((fun k => if k < 2000000 then adK (k - 1000000) else if k < 3000000 then adV (k - 2000000) else if k = 3000000 then z0 else if k = 3000001 then z1 else b, fun _ => 0) : e_E) (.retAddr 0) = if z0 = 0 then .null else .ref z1 := rfl
    rw [this]
    exact hz
  · rfl
