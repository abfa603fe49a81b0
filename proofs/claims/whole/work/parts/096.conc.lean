/-! making cells, known ones: behind a heap (S0, g0) the cells of a list -/
abbrev e_cl : Type := (Nat × Nat) × List (Nat × Int32) × List (Nat × Nat)
def e_d0 : e_cl := ((0, 0), [], [])
def e_of (S0 : e_S) (g0 : e_G) (cs : List e_cl) : e_H := ((S0.1 + cs.length, fun k => if k < S0.1 then S0.2 k else (cs.getD (k - S0.1) e_d0).1), (fun k => if k < S0.1 then g0.1 k else fun j => ((cs.getD (k - S0.1) e_d0).2.1.lookup j).getD 0, fun k => if k < S0.1 then g0.2 k else fun j => (cs.getD (k - S0.1) e_d0).2.2.lookup j))
def e_stI (cs : List e_cl) (i j : Nat) (v : Int32) : List e_cl := cs.set i ((cs.getD i e_d0).1, (j, v) :: (cs.getD i e_d0).2.1, (cs.getD i e_d0).2.2)
def e_stR (cs : List e_cl) (i j b : Nat) : List e_cl := cs.set i ((cs.getD i e_d0).1, (cs.getD i e_d0).2.1, (j, b) :: (cs.getD i e_d0).2.2)
def e_ad (cs : List e_cl) (kd len : Nat) : List e_cl := cs ++ [((kd, len), [], [])]
theorem e_of_new {S0 : e_S} {g0 : e_G} {cs : List e_cl} {kd len : Nat} : e_new (e_of S0 g0 cs) kd len = e_of S0 g0 (e_ad cs kd len) := by
  have key : ∀ k, ¬ k < S0.1 → ((e_ad cs kd len).getD (k - S0.1) e_d0) = if k = S0.1 + cs.length then ((kd, len), [], []) else cs.getD (k - S0.1) e_d0 := by
    intro k hk
    unfold e_ad
    rw [List.getD_eq_getElem?_getD, List.getD_eq_getElem?_getD]
    by_cases h1 : k = S0.1 + cs.length
    · subst h1
      rw [if_pos rfl, show S0.1 + cs.length - S0.1 = cs.length by omega, List.getElem?_concat_length]
      rfl
    · rw [if_neg h1]
      by_cases h2 : k - S0.1 < cs.length
      · rw [List.getElem?_append_left h2]
      · rw [List.getElem?_eq_none (by simp; omega), List.getElem?_eq_none (by omega)]
  refine Prod.ext (Prod.ext ?_ ?_) (Prod.ext ?_ ?_)
  · show S0.1 + cs.length + 1 = S0.1 + (cs ++ [((kd, len), [], [])]).length
    simp
    omega
  · funext k
    show (if k = S0.1 + cs.length then (kd, len) else if k < S0.1 then S0.2 k else (cs.getD (k - S0.1) e_d0).1) = if k < S0.1 then S0.2 k else ((e_ad cs kd len).getD (k - S0.1) e_d0).1
    by_cases h : k < S0.1
    · rw [if_neg (by omega), if_pos h, if_pos h]
    · rw [if_neg h, if_neg h, key k h]
      split <;> rfl
  · funext k
    show (if k = S0.1 + cs.length then (fun _ => 0) else if k < S0.1 then g0.1 k else fun j => ((cs.getD (k - S0.1) e_d0).2.1.lookup j).getD 0) = if k < S0.1 then g0.1 k else fun j => (((e_ad cs kd len).getD (k - S0.1) e_d0).2.1.lookup j).getD 0
    by_cases h : k < S0.1
    · rw [if_neg (by omega), if_pos h, if_pos h]
    · rw [if_neg h, if_neg h, key k h]
      split <;> rfl
  · funext k
    show (if k = S0.1 + cs.length then (fun _ => none) else if k < S0.1 then g0.2 k else fun j => (cs.getD (k - S0.1) e_d0).2.2.lookup j) = if k < S0.1 then g0.2 k else fun j => ((e_ad cs kd len).getD (k - S0.1) e_d0).2.2.lookup j
    by_cases h : k < S0.1
    · rw [if_neg (by omega), if_pos h, if_pos h]
    · rw [if_neg h, if_neg h, key k h]
      split <;> rfl
theorem e_getD_set {cs : List e_cl} {i : Nat} {x : e_cl} (hi : i < cs.length) (k : Nat) : (cs.set i x).getD k e_d0 = if k = i then x else cs.getD k e_d0 := by
  rw [List.getD_eq_getElem?_getD, List.getD_eq_getElem?_getD]
  by_cases h : k = i
  · subst h
    rw [if_pos rfl, List.getElem?_set_self hi]
    rfl
  · rw [if_neg h, List.getElem?_set_ne (Ne.symm h)]
theorem e_lk {α : Type} {l : List (Nat × α)} {j k : Nat} {v : α} : ((j, v) :: l).lookup k = if k = j then some v else l.lookup k := by
  simp only [List.lookup]
  by_cases h : k = j
  · subst h; simp
  · have q : (k == j) = false := by simp [h]
    rw [q, if_neg h]
theorem e_of_stI {S0 : e_S} {g0 : e_G} {cs : List e_cl} {i j : Nat} {v : Int32} (hi : i < cs.length) : e_of S0 g0 (e_stI cs i j v) = ((e_of S0 g0 cs).1, (e_up (e_of S0 g0 cs).2.1 (S0.1 + i) j v, (e_of S0 g0 cs).2.2)) := by
  refine Prod.ext (Prod.ext ?_ ?_) (Prod.ext ?_ ?_)
  · show S0.1 + (cs.set i _).length = S0.1 + cs.length
    rw [List.length_set]
  · funext k
    show (if k < S0.1 then S0.2 k else ((cs.set i _).getD (k - S0.1) e_d0).1) = if k < S0.1 then S0.2 k else (cs.getD (k - S0.1) e_d0).1
    rw [e_getD_set hi]
    split
    · rfl
    · split
      next h => rw [h]
      next => rfl
  · funext k m
    show (if k < S0.1 then g0.1 k else fun j => (((cs.set i _).getD (k - S0.1) e_d0).2.1.lookup j).getD 0) m = e_up (e_of S0 g0 cs).2.1 (S0.1 + i) j v k m
    rw [e_getD_set hi]
    unfold e_up
    show _ = if k = S0.1 + i ∧ m = j then v else (if k < S0.1 then g0.1 k else fun j => ((cs.getD (k - S0.1) e_d0).2.1.lookup j).getD 0) m
    by_cases h : k < S0.1
    · rw [if_pos h, if_pos h, if_neg (by omega)]
    · rw [if_neg h, if_neg h]
      by_cases h2 : k - S0.1 = i
      · have h3 : k = S0.1 + i := by omega
        rw [if_pos h2, e_lk]
        by_cases h4 : m = j
        · rw [if_pos h4, if_pos ⟨h3, h4⟩]; rfl
        · rw [if_neg h4, if_neg (fun z => h4 z.2), h2]
      · have h3 : ¬ k = S0.1 + i := by omega
        rw [if_neg h2, if_neg (fun z => h3 z.1)]
  · funext k m
    show (if k < S0.1 then g0.2 k else fun j => ((cs.set i _).getD (k - S0.1) e_d0).2.2.lookup j) m = (if k < S0.1 then g0.2 k else fun j => (cs.getD (k - S0.1) e_d0).2.2.lookup j) m
    rw [e_getD_set hi]
    split
    · rfl
    · split
      next h => rw [h]
      next => rfl
theorem e_of_stR {S0 : e_S} {g0 : e_G} {cs : List e_cl} {i j b : Nat} (hi : i < cs.length) : e_of S0 g0 (e_stR cs i j b) = ((e_of S0 g0 cs).1, ((e_of S0 g0 cs).2.1, e_up (e_of S0 g0 cs).2.2 (S0.1 + i) j (some b))) := by
  refine Prod.ext (Prod.ext ?_ ?_) (Prod.ext ?_ ?_)
  · show S0.1 + (cs.set i _).length = S0.1 + cs.length
    rw [List.length_set]
  · funext k
    show (if k < S0.1 then S0.2 k else ((cs.set i _).getD (k - S0.1) e_d0).1) = if k < S0.1 then S0.2 k else (cs.getD (k - S0.1) e_d0).1
    rw [e_getD_set hi]
    split
    · rfl
    · split
      next h => rw [h]
      next => rfl
  · funext k m
    show (if k < S0.1 then g0.1 k else fun j => (((cs.set i _).getD (k - S0.1) e_d0).2.1.lookup j).getD 0) m = (if k < S0.1 then g0.1 k else fun j => ((cs.getD (k - S0.1) e_d0).2.1.lookup j).getD 0) m
    rw [e_getD_set hi]
    split
    · rfl
    · split
      next h => rw [h]
      next => rfl
  · funext k m
    show (if k < S0.1 then g0.2 k else fun j => ((cs.set i _).getD (k - S0.1) e_d0).2.2.lookup j) m = e_up (e_of S0 g0 cs).2.2 (S0.1 + i) j (some b) k m
    rw [e_getD_set hi]
    unfold e_up
    show _ = if k = S0.1 + i ∧ m = j then some b else (if k < S0.1 then g0.2 k else fun j => (cs.getD (k - S0.1) e_d0).2.2.lookup j) m
    by_cases h : k < S0.1
    · rw [if_pos h, if_pos h, if_neg (by omega)]
    · rw [if_neg h, if_neg h]
      by_cases h2 : k - S0.1 = i
      · have h3 : k = S0.1 + i := by omega
        rw [if_pos h2, e_lk]
        by_cases h4 : m = j
        · rw [if_pos h4, if_pos ⟨h3, h4⟩]
        · rw [if_neg h4, if_neg (fun z => h4 z.2), h2]
      · have h3 : ¬ k = S0.1 + i := by omega
        rw [if_neg h2, if_neg (fun z => h3 z.1)]
theorem e_of_ob {S0 : e_S} {g0 : e_G} {cs : List e_cl} {ci i p : Nat} (hp : p = S0.1 + i) (h : (decide (i < cs.length) && decide ((cs.getD i e_d0).1.1 = 10 + ci)) = true) : e_ob (e_of S0 g0 cs).1 ci p = true := by
  subst hp
  rw [Bool.and_eq_true, decide_eq_true_eq, decide_eq_true_eq] at h
  refine e_ob_iff.mpr ⟨by show S0.1 + i < S0.1 + cs.length; omega, ?_⟩
  show (if S0.1 + i < S0.1 then S0.2 (S0.1 + i) else (cs.getD (S0.1 + i - S0.1) e_d0).1).1 = 10 + ci
  rw [if_neg (by omega), show S0.1 + i - S0.1 = i by omega]
  exact h.2
theorem e_of_ar {S0 : e_S} {g0 : e_G} {cs : List e_cl} {kd len i p : Nat} (hp : p = S0.1 + i) (h : (decide (i < cs.length) && decide ((cs.getD i e_d0).1 = (kd, len))) = true) : e_ar (e_of S0 g0 cs).1 kd p = true ∧ ((e_of S0 g0 cs).1.2 p).2 = len := by
  subst hp
  rw [Bool.and_eq_true, decide_eq_true_eq, decide_eq_true_eq] at h
  have e : (e_of S0 g0 cs).1.2 (S0.1 + i) = (kd, len) := by
    show (if S0.1 + i < S0.1 then S0.2 (S0.1 + i) else (cs.getD (S0.1 + i - S0.1) e_d0).1) = (kd, len)
    rw [if_neg (by omega), show S0.1 + i - S0.1 = i by omega]
    exact h.2
  exact ⟨e_ar_iff.mpr ⟨by show S0.1 + i < S0.1 + cs.length; omega, by rw [e]⟩, by rw [e]⟩
theorem e_of_R {S0 : e_S} {g0 : e_G} {cs : List e_cl} {i j p : Nat} (hp : p = S0.1 + i) : (e_of S0 g0 cs).2.2 p j = (cs.getD i e_d0).2.2.lookup j := by
  subst hp
  show (if S0.1 + i < S0.1 then g0.2 (S0.1 + i) else fun j => (cs.getD (S0.1 + i - S0.1) e_d0).2.2.lookup j) j = _
  rw [if_neg (by omega), show S0.1 + i - S0.1 = i by omega]
section E12
variable {l : Launch} {D : va_G} {R : Room} {M : e_M} {bc bs pc : Nat} {lc : List (Nat × Value)} {st : List Value} {S0 : e_S} {g0 : e_G} {cs : List e_cl} {r : Option Value} {h' : e_H}
theorem Z.newarr {at' : ArrayType} {n : Int32} {kd n0 : Nat} (hd : decode M.2.1 pc = .ok (.newarray at', 2)) (hk : kd = 0 ∧ newarray.typeOf at' = .int ∨ kd = 1 ∧ newarray.typeOf at' = .boolean) (hw : Cond.arrayClass (newarray.typeOf at') ∈ e_big) (hn : ¬ n < 0) {len : Nat} (hl : n.toNatClampNeg = len) (hb : len ≤ 100000) (hq : S0.1 + cs.length = n0) (hm : n0 + 1 ≤ 1000000) (hok : e_okl n0 (n0 + 1) lc st = true)
    {cs' : List e_cl} (hcs : e_ad cs kd len = cs') (K : X l D R M bc bs (pc + 2) lc (.ref n0 :: st) (e_of S0 g0 cs') r h') : X l D R M (bc + 1) (bs + len) pc lc (.int n :: st) (e_of S0 g0 cs) r h' := by
  subst hcs
  subst hq
  refine X.newarr hd hk hw hn hl hb hm hok ?_
  rw [e_of_new]
  exact K
theorem Z.anew {idx : Nat} {n : Int32} {kd n0 : Nat} {nm : String} (hd : decode M.2.1 pc = .ok (.anewarray idx, 3)) (hk : kd = 2 ∨ kd = 3 ∨ kd = 4) (ht : e_ty kd = .object nm) (hmem : nm ∈ ([RX9, RX3, RX6] : List String)) (hw : Cond.classLink M.1.cls idx nm ∈ e_big) (hn : ¬ n < 0) {len : Nat} (hl : n.toNatClampNeg = len) (hb : len ≤ 100000) (hq : S0.1 + cs.length = n0) (hm : n0 + 1 ≤ 1000000) (hok : e_okl n0 (n0 + 1) lc st = true)
    {cs' : List e_cl} (hcs : e_ad cs kd len = cs') (K : X l D R M bc bs (pc + 3) lc (.ref n0 :: st) (e_of S0 g0 cs') r h') : X l D R M (bc + 1) (bs + len) pc lc (.int n :: st) (e_of S0 g0 cs) r h' := by
  subst hcs
  subst hq
  refine X.anew hd hk ht hmem hw hn hl hb hm hok ?_
  rw [e_of_new]
  exact K
theorem Z.new {idx ci n0 : Nat} (hd : decode M.2.1 pc = .ok (.new idx, 3)) (hci : ci < 12) {len : Nat} (hlen : (e_C ci).2.2 = len) (hw : Cond.classLink M.1.cls idx (e_C ci).1 ∈ e_big) (w2 : Cond.instantiable (e_C ci).1 (e_C ci).2.2 ∈ e_big) (w3 : Cond.initialized (e_C ci).1 ∈ e_big) (hq : S0.1 + cs.length = n0) (hm : n0 + 1 ≤ 1000000) (hok : e_okl n0 (n0 + 1) lc st = true)
    {cs' : List e_cl} (hcs : e_ad cs (10 + ci) len = cs') (K : X l D R M bc bs (pc + 3) lc (.ref n0 :: st) (e_of S0 g0 cs') r h') : X l D R M (bc + 1) (bs + len) pc lc st (e_of S0 g0 cs) r h' := by
  subst hcs
  subst hq
  refine X.new hd hci hlen hw w2 w3 hm hok ?_
  rw [e_of_new]
  exact K
theorem Z.putF {idx ci k i p b : Nat} (hd : decode M.2.1 pc = .ok (.putfield idx, 3)) (hw : e_FL M.1.cls idx ci k) (hr : e_rf ci k = true) (hf : ((e_C ci).2.1 k).2.2.2 = true) (hi : M.1.name = "<init>") (hdc : ((e_C ci).2.1 k).1 = M.1.cls) (hp : p = S0.1 + i) (ho : (decide (i < cs.length) && decide ((cs.getD i e_d0).1.1 = 10 + ci)) = true) (hb : b < S0.1 + cs.length) {cs' : List e_cl} (hcs : e_stR cs i k b = cs') (K : X l D R M bc bs (pc + 3) lc st (e_of S0 g0 cs') r h') : X l D R M bc bs pc lc (.ref b :: .ref p :: st) (e_of S0 g0 cs) r h' := by
  subst hcs
  have hl : i < cs.length := by
    rw [Bool.and_eq_true, decide_eq_true_eq] at ho
    exact ho.1
  refine X.putF hd hw hr hf hi hdc (g := ((e_of S0 g0 cs).2.1, e_up (e_of S0 g0 cs).2.2 p k (some b))) ?_ ?_
  · unfold e_sR
    rw [if_pos]
    rw [Bool.and_eq_true, decide_eq_true_eq]
    exact ⟨e_of_ob hp ho, hb⟩
  · rw [hp]
    rw [e_of_stR hl] at K
    exact K
theorem Z.putI {idx ci k i p : Nat} {v : Int32} (hd : decode M.2.1 pc = .ok (.putfield idx, 3)) (hw : e_FL M.1.cls idx ci k) (hr : e_rf ci k = false) (hf : ((e_C ci).2.1 k).2.2.2 = false) (hn : narrow (e_tyF ci k) (.int v) = .int v) (hfit : fits (e_tyF ci k) (.int v) = true) (hp : p = S0.1 + i) (ho : (decide (i < cs.length) && decide ((cs.getD i e_d0).1.1 = 10 + ci)) = true) {cs' : List e_cl} (hcs : e_stI cs i k v = cs') (K : X l D R M bc bs (pc + 3) lc st (e_of S0 g0 cs') r h') : X l D R M bc bs pc lc (.int v :: .ref p :: st) (e_of S0 g0 cs) r h' := by
  subst hcs
  have hl : i < cs.length := by
    rw [Bool.and_eq_true, decide_eq_true_eq] at ho
    exact ho.1
  refine X.putI hd hw hr hf hn hfit (g := (e_up (e_of S0 g0 cs).2.1 p k v, (e_of S0 g0 cs).2.2)) ?_ ?_
  · unfold e_sI
    rw [if_pos (e_of_ob hp ho)]
  · rw [hp]
    rw [e_of_stI hl] at K
    exact K
theorem Z.getR {idx ci k i p b : Nat} (hd : decode M.2.1 pc = .ok (.getfield idx, 3)) (hw : e_FL M.1.cls idx ci k) (hr : e_rf ci k = true) (hp : p = S0.1 + i) (ho : (decide (i < cs.length) && decide ((cs.getD i e_d0).1.1 = 10 + ci)) = true) (hv : (cs.getD i e_d0).2.2.lookup k = some b) (K : X l D R M bc bs (pc + 3) lc (.ref b :: st) (e_of S0 g0 cs) r h') : X l D R M bc bs pc lc (.ref p :: st) (e_of S0 g0 cs) r h' := by
  refine X.getR hd hw hr ?_ K
  unfold e_gR
  rw [if_pos (e_of_ob hp ho), e_of_R hp]
  exact hv
theorem Z.iast {i p len : Nat} {j v : Int32} {jn : Nat} (hd : decode M.2.1 pc = .ok (.iastore, 1)) (hp : p = S0.1 + i) (ho : (decide (i < cs.length) && decide ((cs.getD i e_d0).1 = (0, len))) = true) (hj : e_in j len = true) (hjn : j.toNatClampNeg = jn) {cs' : List e_cl} (hcs : e_stI cs i jn v = cs') (K : X l D R M bc bs (pc + 1) lc st (e_of S0 g0 cs') r h') : X l D R M bc bs pc lc (.int v :: .int j :: .ref p :: st) (e_of S0 g0 cs) r h' := by
  subst hcs
  have hl : i < cs.length := by
    rw [Bool.and_eq_true, decide_eq_true_eq] at ho
    exact ho.1
  obtain ⟨a1, a2⟩ := e_of_ar (g0 := g0) hp ho
  refine X.iast hd (g := (e_up (e_of S0 g0 cs).2.1 p jn v, (e_of S0 g0 cs).2.2)) ?_ ?_
  · unfold e_aS
    rw [a2, a1, hj, hjn]
    rfl
  · rw [hp]
    rw [e_of_stI hl] at K
    exact K
theorem Z.aast {kd i p b ci ib len : Nat} {j : Int32} {jn : Nat} (hd : decode M.2.1 pc = .ok (.aastore, 1)) (hk : kd = 2 ∨ kd = 3 ∨ kd = 4) (hci : ci < 12) (hc : e_ty kd = .object (e_C ci).1 ∨ ∃ C0, e_ty kd = .object C0 ∧ ((e_C ci).1, C0) ∈ e_cast) (hp : p = S0.1 + i) (ho : (decide (i < cs.length) && decide ((cs.getD i e_d0).1 = (kd, len))) = true) (hpb : b = S0.1 + ib) (hob : (decide (ib < cs.length) && decide ((cs.getD ib e_d0).1.1 = 10 + ci)) = true) (hj : e_in j len = true) (hjn : j.toNatClampNeg = jn) {cs' : List e_cl} (hcs : e_stR cs i jn b = cs') (K : X l D R M bc bs (pc + 1) lc st (e_of S0 g0 cs') r h') : X l D R M bc bs pc lc (.ref b :: .int j :: .ref p :: st) (e_of S0 g0 cs) r h' := by
  subst hcs
  have hl : i < cs.length := by
    rw [Bool.and_eq_true, decide_eq_true_eq] at ho
    exact ho.1
  have hb : e_ob (e_of S0 g0 cs).1 ci b = true := e_of_ob (g0 := g0) hpb hob
  obtain ⟨a1, a2⟩ := e_of_ar (g0 := g0) hp ho
  refine X.aast hd hk hb hci hc (g := ((e_of S0 g0 cs).2.1, e_up (e_of S0 g0 cs).2.2 p jn (some b))) ?_ ?_
  · unfold e_aT
    rw [a2, a1, hj, hjn]
    rw [if_pos]
    simp [(e_ob_iff.mp hb).1]
  · rw [hp]
    rw [e_of_stR hl] at K
    exact K
end E12
