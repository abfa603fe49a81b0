section E13
variable {l : Launch} {D : va_G} {R : Room} {M : e_M} {bc bs bc' bs' pc : Nat} {lc : List (Nat × Value)} {st : List Value} {S0 : e_S} {g0 : e_G} {cs : List e_cl} {r : Option Value} {h h' : e_H}
theorem ZZ.newarr {at' : ArrayType} {n : Int32} {kd n0 : Nat} (hd : decode M.2.1 pc = .ok (.newarray at', 2)) (hk : kd = 0 ∧ newarray.typeOf at' = .int ∨ kd = 1 ∧ newarray.typeOf at' = .boolean) (hw : Cond.arrayClass (newarray.typeOf at') ∈ e_big) (hn : ¬ n < 0) {len : Nat} (hl : n.toNatClampNeg = len) (hb : len ≤ 100000) (hq : S0.1 + cs.length = n0) (hm : n0 + 1 ≤ 1000000) (hok : e_okl n0 (n0 + 1) lc st = true)
    {cs' : List e_cl} (hcs : e_ad cs kd len = cs') (K : X l D R M bc bs (pc + 2) lc (.ref n0 :: st) (e_of S0 g0 cs') r h') (hbc : bc + 1 = bc') (hbs : bs + len = bs') : X l D R M bc' bs' pc lc (.int n :: st) (e_of S0 g0 cs) r h' := by
  subst hbc
  subst hbs
  exact Z.newarr hd hk hw hn hl hb hq hm hok hcs K
theorem ZZ.anew {idx : Nat} {n : Int32} {kd n0 : Nat} {nm : String} (hd : decode M.2.1 pc = .ok (.anewarray idx, 3)) (hk : kd = 2 ∨ kd = 3 ∨ kd = 4) (ht : e_ty kd = .object nm) (hmem : nm ∈ ([RX9, RX3, RX6] : List String)) (hw : Cond.classLink M.1.cls idx nm ∈ e_big) (hn : ¬ n < 0) {len : Nat} (hl : n.toNatClampNeg = len) (hb : len ≤ 100000) (hq : S0.1 + cs.length = n0) (hm : n0 + 1 ≤ 1000000) (hok : e_okl n0 (n0 + 1) lc st = true)
    {cs' : List e_cl} (hcs : e_ad cs kd len = cs') (K : X l D R M bc bs (pc + 3) lc (.ref n0 :: st) (e_of S0 g0 cs') r h') (hbc : bc + 1 = bc') (hbs : bs + len = bs') : X l D R M bc' bs' pc lc (.int n :: st) (e_of S0 g0 cs) r h' := by
  subst hbc
  subst hbs
  exact Z.anew hd hk ht hmem hw hn hl hb hq hm hok hcs K
theorem ZZ.new {idx ci n0 : Nat} (hd : decode M.2.1 pc = .ok (.new idx, 3)) (hci : ci < 12) {len : Nat} (hlen : (e_C ci).2.2 = len) (hw : Cond.classLink M.1.cls idx (e_C ci).1 ∈ e_big) (w2 : Cond.instantiable (e_C ci).1 (e_C ci).2.2 ∈ e_big) (w3 : Cond.initialized (e_C ci).1 ∈ e_big) (hq : S0.1 + cs.length = n0) (hm : n0 + 1 ≤ 1000000) (hok : e_okl n0 (n0 + 1) lc st = true)
    {cs' : List e_cl} (hcs : e_ad cs (10 + ci) len = cs') (K : X l D R M bc bs (pc + 3) lc (.ref n0 :: st) (e_of S0 g0 cs') r h') (hbc : bc + 1 = bc') (hbs : bs + len = bs') : X l D R M bc' bs' pc lc st (e_of S0 g0 cs) r h' := by
  subst hbc
  subst hbs
  exact Z.new hd hci hlen hw w2 w3 hq hm hok hcs K
theorem ZZ.callI {idx b : Nat} {M' : e_M} {R' : Room} {av : List Value} {h1 : e_H} (hd : decode M.2.1 pc = .ok (.invokespecial idx, 3)) (hc : CT l D R' M' (.ref b :: av) h none h1) (hw : ∀ w ∈ ([.methodLink M.1.cls idx M'.1, .instanceMethod M'.1, .initialized M'.1.cls, Cond.code M'.1 M'.2.1 M'.2.2.1 none] : List Cond), w ∈ e_big) (hnm : M'.1.name = "<init>") (hrt : M'.2.2.2 = none) (hm : e_Mok M' av.length) (hR : e_Rm R R' M'.2.2.1) (hst : (st.map fun v => v.category).sum ≤ 8) (hok : e_okl h.1.1 h1.1.1 lc st = true)
    (K : X l D R M bc bs (pc + 3) lc st h1 r h') (hbc : bc + R'.cells = bc') (hbs : bs + R'.slots = bs') : X l D R M bc' bs' pc lc (av.reverse ++ .ref b :: st) h r h' := by
  subst hbc
  subst hbs
  exact X.callI (ci := 0) hd hc hw hnm hrt hm hR hst hok K
end E13
