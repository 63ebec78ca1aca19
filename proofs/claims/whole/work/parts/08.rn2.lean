def IsBd (k : Nat) : Prop := shX[k]? = some (.inl (1, [0, 0, 1, k + 1 + 3])) ∧ shX[k + 1]? = some (.inr (0, 64, fun _ => 0))
def IsSt (k : Nat) : Prop := shX[k]? = some (.inl (8, [0, 0, k + 1 + 3])) ∧ shX[k + 1]? = some (.inr (0, 64, fun _ => 0))
def IsLw (k : Nat) : Prop := shX[k]? = some (.inl (3, [k + 1 + 3, k + 2 + 3, k + 3 + 3, k + 4 + 3, k + 5 + 3, 0, 0, 0, 0, 0])) ∧ shX[k + 1]? = some (.inr (0, 8, fun _ => 0)) ∧ shX[k + 2]? = some (.inr (0, 8, fun _ => 0)) ∧ shX[k + 3]? = some (.inr (0, 8, fun _ => 0)) ∧ shX[k + 4]? = some (.inr (0, 8, fun _ => 0)) ∧ shX[k + 5]? = some (.inr (0, 8, fun _ => 0))
theorem is_1 : IsBd 1 := ⟨rfl, rfl⟩
theorem is_5 : IsBd 5 := ⟨rfl, rfl⟩
theorem is_7 : IsBd 7 := ⟨rfl, rfl⟩
theorem is_9 : IsBd 9 := ⟨rfl, rfl⟩
theorem is_11 : IsBd 11 := ⟨rfl, rfl⟩
theorem is_13 : IsBd 13 := ⟨rfl, rfl⟩
theorem is_15 : IsBd 15 := ⟨rfl, rfl⟩
theorem is_17 : IsBd 17 := ⟨rfl, rfl⟩
theorem is_19 : IsBd 19 := ⟨rfl, rfl⟩
theorem is_62 : IsLw 62 := ⟨rfl, rfl, rfl, rfl, rfl, rfl⟩
theorem is_68 : IsLw 68 := ⟨rfl, rfl, rfl, rfl, rfl, rfl⟩
theorem is_75 : IsSt 75 := ⟨rfl, rfl⟩
theorem is_77 : IsSt 77 := ⟨rfl, rfl⟩
theorem is_79 : IsSt 79 := ⟨rfl, rfl⟩
theorem is_81 : IsSt 81 := ⟨rfl, rfl⟩
theorem okL_is {r k : Nat} (h : okL_ r = some k) : IsLw k := by
  unfold okL_ at h
  split at h
  · rename_i q
    cases h
    rcases q with rfl | rfl
    · exact is_62
    · exact is_68
  · cases h
theorem okL_eq {r k : Nat} (h : okL_ r = some k) : k = r := by
  unfold okL_ at h
  split at h
  · cases h; rfl
  · cases h
theorem is_acts {i : Int32} {k : Nat} (h : rR_ 8 (fun i => 5 + 2 * i) i = some k) : IsBd k := by
  obtain ⟨h1, rfl⟩ := rR_some h
  have h2 : i.toNatClampNeg < 8 := Nat.not_le.mp fun q => h1 (Or.inr q)
  generalize i.toNatClampNeg = j at h2
  match j, h2 with
  | 0, _ => exact is_5
  | 1, _ => exact is_7
  | 2, _ => exact is_9
  | 3, _ => exact is_11
  | 4, _ => exact is_13
  | 5, _ => exact is_15
  | 6, _ => exact is_17
  | 7, _ => exact is_19
theorem is_sheets {i : Int32} {k : Nat} (h : rR_ 4 (fun i => 75 + 2 * i) i = some k) : IsSt k := by
  obtain ⟨h1, rfl⟩ := rR_some h
  have h2 : i.toNatClampNeg < 4 := Nat.not_le.mp fun q => h1 (Or.inr q)
  generalize i.toNatClampNeg = j at h2
  match j, h2 with
  | 0, _ => exact is_75
  | 1, _ => exact is_77
  | 2, _ => exact is_79
  | 3, _ => exact is_81
theorem mth_max : Cond.code Lib.Math.max.name Lib.Math.max.code 2 (some .int) ∈ TB_ := tbm 603 (by decide +kernel) (by decide +kernel)
theorem mth_min : Cond.code Lib.Math.min.name Lib.Math.min.code 2 (some .int) ∈ TB_ := tbm 486 (by decide +kernel) (by decide +kernel)
theorem mth_abs : Cond.code Lib.Math.abs.name Lib.Math.abs.code 1 (some .int) ∈ TB_ := tbm 1058 (by decide +kernel) (by decide +kernel)
theorem mst_max : Cond.static Lib.Math.max.name ∈ TB_ := sm_J9_max_7cf53
theorem mst_min : Cond.static Lib.Math.min.name ∈ TB_ := sm_J9_min_7cf53
theorem mst_abs : Cond.static Lib.Math.abs.name ∈ TB_ := sm_J9_abs_0f7a4
theorem mth_ini : Cond.initialized "java/lang/Math" ∈ TB_ := tbm 15 (by decide +kernel) (by decide +kernel)
theorem acp_nat : Cond.native arraycopyName ∈ TB_ := tbm 483 (by decide +kernel) (by decide +kernel)
theorem acp_st : Cond.static arraycopyName ∈ TB_ := tbm 482 (by decide +kernel) (by decide +kernel)
theorem ml_X1_26 : Cond.methodLink RX1 26 arraycopyName ∈ TB_ := tbm 481 (by decide +kernel) (by decide +kernel)
theorem acp_ini : Cond.initialized "java/lang/System" ∈ TB_ := tbm 14 (by decide +kernel) (by decide +kernel)
section RN3
variable {G : Gx} {sh : List ShE} {d : Nat} {y : MethodName} {cc : ByteArray} {nL : Nat} {ret : Option FieldType} {pc : Nat} {lv : List (Nat × Value)} {st rest : List Value} {S : St} {post : Option Value → St → Prop}
theorem r_getP {k j ci idx p0 : Nat} {ks : List Nat} (h : sh[k]? = some (.inl (ci, ks))) (hj : ks[j]? = some 2) (hf : FL_ y.cls idx ci j) (hp : okL_ (gR_ S k j) = some p0) (hdg : decode cc pc = .ok (.getfield idx, 3)) (kk : Rn G sh d y cc nL ret (pc + 3) lv (.ref (ad_ G p0) :: rest) S post) : Rn G sh d y cc nL ret pc lv (.ref (ad_ G k) :: rest) S post :=
  r_getR h hj hf hdg (by rw [okL_eq hp] at kk; exact kk)
theorem r_setI {k j ci idx : Nat} {ks : List Nat} {v : Int32} {S1 : St} (h : sh[k]? = some (.inl (ci, ks))) (hj : ks[j]? = some 0) (hf : PF_ y.cls idx ci j .int) (hS : oI_ S k j v = some S1) (hdg : decode cc pc = .ok (.putfield idx, 3)) (kk : Rn G sh d y cc nL ret (pc + 3) lv rest S1 post) : Rn G sh d y cc nL ret pc lv (.int v :: .ref (ad_ G k) :: rest) S post := by
  cases hS
  exact r_putI h hj hf hdg kk
theorem r_setZ {k j ci idx : Nat} {ks : List Nat} {v : Int32} {S1 : St} (h : sh[k]? = some (.inl (ci, ks))) (hj : ks[j]? = some 0) (hf : PF_ y.cls idx ci j .boolean) (hn : narrow .boolean (.int v) = .int v ∧ fits .boolean (.int v) = true) (hS : oI_ S k j v = some S1) (hdg : decode cc pc = .ok (.putfield idx, 3)) (kk : Rn G sh d y cc nL ret (pc + 3) lv rest S1 post) : Rn G sh d y cc nL ret pc lv (.int v :: .ref (ad_ G k) :: rest) S post := by
  cases hS
  exact r_putZ h hj hf hn hdg kk
theorem r_setL {k j ci idx : Nat} {ks : List Nat} {v : Int64} {S1 : St} (h : sh[k]? = some (.inl (ci, ks))) (hj : ks[j]? = some 1) (hf : PF_ y.cls idx ci j .long) (hS : oL_ S k j v = some S1) (hdg : decode cc pc = .ok (.putfield idx, 3)) (kk : Rn G sh d y cc nL ret (pc + 3) lv rest S1 post) : Rn G sh d y cc nL ret pc lv (.long v :: .ref (ad_ G k) :: rest) S post := by
  cases hS
  exact r_putL h hj hf hdg kk
theorem r_setR {k j ci idx v : Nat} {ks : List Nat} {S1 : St} {C0 : String} (h : sh[k]? = some (.inl (ci, ks))) (hj : ks[j]? = some 2) (hf : PF_ y.cls idx ci j (.object C0)) (hS : oR_ S k j v = some S1) (hdg : decode cc pc = .ok (.putfield idx, 3)) (kk : Rn G sh d y cc nL ret (pc + 3) lv rest S1 post) : Rn G sh d y cc nL ret pc lv (.ref (ad_ G v) :: .ref (ad_ G k) :: rest) S post := by
  cases hS
  exact r_putR h hj hf hdg kk
theorem r_mmax {idx : Nat} {a b : Int32} (hd : 1 ≤ d) (hl1 : Cond.methodLink y.cls idx Lib.Math.max.name ∈ TB_) (hrs : (rest.map fun v => v.category).sum ≤ 8) (hdg : decode cc pc = .ok (.invokestatic idx, 3)) (k : Rn G sh d y cc nL ret (pc + 3) lv (.int (mmax_ a b) :: rest) S post) : Rn G sh d y cc nL ret pc lv (.int b :: .int a :: rest) S post := by
  intro p e s m args below meth c H locs ls hy hP hS hl
  obtain ⟨hx, hb, hr, hml, hown, hts, hlk, hI, hK, hE⟩ := id hy
  exact va_mmax hx hb (hml.trans hl.1.symm) hown (hts _ hl1) (hts _ mst_max) (hts _ mth_ini) (hts _ mth_max) (show 1 ≤ d from hd) (show _ ≤ 64 * d by omega) (Nat.le_refl _) (Nat.le_refl _) hdg (k p e s m args below meth c H locs ls hy hP hS hl)
theorem r_mmin {idx : Nat} {a b : Int32} (hd : 1 ≤ d) (hl1 : Cond.methodLink y.cls idx Lib.Math.min.name ∈ TB_) (hrs : (rest.map fun v => v.category).sum ≤ 8) (hdg : decode cc pc = .ok (.invokestatic idx, 3)) (k : Rn G sh d y cc nL ret (pc + 3) lv (.int (mmin_ a b) :: rest) S post) : Rn G sh d y cc nL ret pc lv (.int b :: .int a :: rest) S post := by
  intro p e s m args below meth c H locs ls hy hP hS hl
  obtain ⟨hx, hb, hr, hml, hown, hts, hlk, hI, hK, hE⟩ := id hy
  exact va_mmin hx hb (hml.trans hl.1.symm) hown (hts _ hl1) (hts _ mst_min) (hts _ mth_ini) (hts _ mth_min) (show 1 ≤ d from hd) (show _ ≤ 64 * d by omega) (Nat.le_refl _) (Nat.le_refl _) hdg (k p e s m args below meth c H locs ls hy hP hS hl)
theorem r_mabs {idx : Nat} {a : Int32} (hd : 1 ≤ d) (hl1 : Cond.methodLink y.cls idx Lib.Math.abs.name ∈ TB_) (hrs : (rest.map fun v => v.category).sum ≤ 8) (hdg : decode cc pc = .ok (.invokestatic idx, 3)) (k : Rn G sh d y cc nL ret (pc + 3) lv (.int (mabs_ a) :: rest) S post) : Rn G sh d y cc nL ret pc lv (.int a :: rest) S post := by
  intro p e s m args below meth c H locs ls hy hP hS hl
  obtain ⟨hx, hb, hr, hml, hown, hts, hlk, hI, hK, hE⟩ := id hy
  exact va_mabs hx hb (hml.trans hl.1.symm) hown (hts _ hl1) (hts _ mst_abs) (hts _ mth_ini) (hts _ mth_abs) (show 1 ≤ d from hd) (show _ ≤ 64 * d by omega) (Nat.le_refl _) (Nat.le_refl _) hdg (k p e s m args below meth c H locs ls hy hP hS hl)
theorem r_copy {idx a b n0 n1 : Nat} {g0 g1 : Nat → Nat} {sp dp n : Int32} {S1 : St} (hd : 1 ≤ d) (ha : sh[a]? = some (.inr (0, n0, g0))) (hb0 : sh[b]? = some (.inr (0, n1, g1))) (hl1 : Cond.methodLink y.cls idx arraycopyName ∈ TB_) (hS0 : cp_ S a b n0 n1 sp dp n = some S1) (hrs : (rest.map fun v => v.category).sum ≤ 8) (hdg : decode cc pc = .ok (.invokestatic idx, 3)) (kk : Rn G sh d y cc nL ret (pc + 3) lv rest S1 post) : Rn G sh d y cc nL ret pc lv (.int n :: .int dp :: .ref (ad_ G b) :: .int sp :: .ref (ad_ G a) :: rest) S post := by
  unfold cp_ at hS0
  split at hS0
  · rename_i q
    obtain ⟨q1, q2, q3, q4, q5⟩ := q
    cases hS0
    intro p e s m args below meth c H locs ls hy hP hS hl
    obtain ⟨hx, hb, hr, hml, hown, hts, hlk, hI, hK, hE⟩ := id hy
    have hw : nativeFrameWords "java/lang/System" "arraycopy" 5 + 11 ≤ 50 := by decide
    refine va_copyi hx hb (hml.trans hl.1.symm) hown (hts _ hl1) (hts _ acp_nat) (hts _ acp_st) (hts _ acp_ini) hK hP (pic_D hI S) hS a b 0 0 (pic_get ha) (pic_get hb0) rfl rfl rfl q1 q2 q3 q4 q5 (fun i _ => rfl) (show 1 ≤ d from hd) (show _ ≤ 64 * d by omega) hdg (fun H1 locs1 hP1 _ hS1 => ?_)
    exact kk p e s m args below meth c H1 locs1 ls hy (pic_pW hb0 ▸ hP1) hS1 hl
  · cases hS0
theorem r_callSi {d' idx nL' n : Nat} {y' : MethodName} {cc' : ByteArray} {ret' : Option FieldType} {As : List Value} {v : Int32} {S1 : St} (hd : d' + 1 ≤ d) (hM : MR_ G sh d' y' cc' nL' ret' As S (PI_ v S1)) (hc : CB_ y' cc' nL' ret' n) (hl1 : Cond.methodLink y.cls idx y' ∈ TB_) (hl2 : Cond.static y' ∈ TB_) (hn : As.length = n) (hst : st = As.reverse ++ rest) (hrs : (rest.map fun v => v.category).sum ≤ 8) (hdg : decode cc pc = .ok (.invokestatic idx, 3)) (kk : Rn G sh d y cc nL ret (pc + 3) lv (.int v :: rest) S1 post) : Rn G sh d y cc nL ret pc lv st S post := r_callS hd hM hc hl1 hl2 hn hst hrs hdg (fun r S2 hp => by obtain ⟨rfl, rfl⟩ := hp; exact kk)
theorem r_callSNi {d' idx nL' n : Nat} {y' : MethodName} {cc' : ByteArray} {ret' : Option FieldType} {As : List Value} {v : Int32} {S1 : St} (hd : d' + 1 ≤ d) (hM : MR_ G sh d' y' cc' nL' ret' As S (PI_ v S1)) (hc : CB_ y' cc' nL' ret' n) (hl1 : (y.cls, idx, y') ∈ nest_) (hl2 : Cond.static y' ∈ TB_) (hn : As.length = n) (hst : st = As.reverse ++ rest) (hrs : (rest.map fun v => v.category).sum ≤ 8) (hdg : decode cc pc = .ok (.invokestatic idx, 3)) (kk : Rn G sh d y cc nL ret (pc + 3) lv (.int v :: rest) S1 post) : Rn G sh d y cc nL ret pc lv st S post := r_callSN hd hM hc hl1 hl2 hn hst hrs hdg (fun r S2 hp => by obtain ⟨rfl, rfl⟩ := hp; exact kk)
theorem r_callVi {d' idx nL' n k ci : Nat} {ks : List Nat} {y' : MethodName} {cc' : ByteArray} {ret' : Option FieldType} {As : List Value} {q : vw_C} {v : Int32} {S1 : St} (hd : d' + 1 ≤ d) (hM : MR_ G sh d' y' cc' nL' ret' (.ref (ad_ G k) :: As) S (PI_ v S1)) (h : sh[k]? = some (.inl (ci, ks))) (hq : vwCl[ci]? = some q) (hqc : q.1 = y'.cls) (hc : CB_ y' cc' nL' ret' n) (hl1 : Cond.methodLink y.cls idx y' ∈ TB_) (hl2 : Cond.instanceMethod y' ∈ TB_) (hl3 : Cond.selects y'.cls y' y' ∈ TB_) (hn : As.length = n) (hst : st = As.reverse ++ .ref (ad_ G k) :: rest) (hrs : (rest.map fun v => v.category).sum ≤ 8) (hdg : decode cc pc = .ok (.invokevirtual idx, 3)) (kk : Rn G sh d y cc nL ret (pc + 3) lv (.int v :: rest) S1 post) : Rn G sh d y cc nL ret pc lv st S post := r_callV hd hM h hq hqc hc hl1 hl2 hl3 hn hst hrs hdg (fun r S2 hp => by obtain ⟨rfl, rfl⟩ := hp; exact kk)
theorem r_callSl {d' idx nL' n : Nat} {y' : MethodName} {cc' : ByteArray} {ret' : Option FieldType} {As : List Value} {v : Int64} {S1 : St} (hd : d' + 1 ≤ d) (hM : MR_ G sh d' y' cc' nL' ret' As S (PL_ v S1)) (hc : CB_ y' cc' nL' ret' n) (hl1 : Cond.methodLink y.cls idx y' ∈ TB_) (hl2 : Cond.static y' ∈ TB_) (hn : As.length = n) (hst : st = As.reverse ++ rest) (hrs : (rest.map fun v => v.category).sum ≤ 8) (hdg : decode cc pc = .ok (.invokestatic idx, 3)) (kk : Rn G sh d y cc nL ret (pc + 3) lv (.long v :: rest) S1 post) : Rn G sh d y cc nL ret pc lv st S post := r_callS hd hM hc hl1 hl2 hn hst hrs hdg (fun r S2 hp => by obtain ⟨rfl, rfl⟩ := hp; exact kk)
theorem r_callSNl {d' idx nL' n : Nat} {y' : MethodName} {cc' : ByteArray} {ret' : Option FieldType} {As : List Value} {v : Int64} {S1 : St} (hd : d' + 1 ≤ d) (hM : MR_ G sh d' y' cc' nL' ret' As S (PL_ v S1)) (hc : CB_ y' cc' nL' ret' n) (hl1 : (y.cls, idx, y') ∈ nest_) (hl2 : Cond.static y' ∈ TB_) (hn : As.length = n) (hst : st = As.reverse ++ rest) (hrs : (rest.map fun v => v.category).sum ≤ 8) (hdg : decode cc pc = .ok (.invokestatic idx, 3)) (kk : Rn G sh d y cc nL ret (pc + 3) lv (.long v :: rest) S1 post) : Rn G sh d y cc nL ret pc lv st S post := r_callSN hd hM hc hl1 hl2 hn hst hrs hdg (fun r S2 hp => by obtain ⟨rfl, rfl⟩ := hp; exact kk)
theorem r_callVl {d' idx nL' n k ci : Nat} {ks : List Nat} {y' : MethodName} {cc' : ByteArray} {ret' : Option FieldType} {As : List Value} {q : vw_C} {v : Int64} {S1 : St} (hd : d' + 1 ≤ d) (hM : MR_ G sh d' y' cc' nL' ret' (.ref (ad_ G k) :: As) S (PL_ v S1)) (h : sh[k]? = some (.inl (ci, ks))) (hq : vwCl[ci]? = some q) (hqc : q.1 = y'.cls) (hc : CB_ y' cc' nL' ret' n) (hl1 : Cond.methodLink y.cls idx y' ∈ TB_) (hl2 : Cond.instanceMethod y' ∈ TB_) (hl3 : Cond.selects y'.cls y' y' ∈ TB_) (hn : As.length = n) (hst : st = As.reverse ++ .ref (ad_ G k) :: rest) (hrs : (rest.map fun v => v.category).sum ≤ 8) (hdg : decode cc pc = .ok (.invokevirtual idx, 3)) (kk : Rn G sh d y cc nL ret (pc + 3) lv (.long v :: rest) S1 post) : Rn G sh d y cc nL ret pc lv st S post := r_callV hd hM h hq hqc hc hl1 hl2 hl3 hn hst hrs hdg (fun r S2 hp => by obtain ⟨rfl, rfl⟩ := hp; exact kk)
theorem r_callSv {d' idx nL' n : Nat} {y' : MethodName} {cc' : ByteArray} {ret' : Option FieldType} {As : List Value} {S1 : St} (hd : d' + 1 ≤ d) (hM : MR_ G sh d' y' cc' nL' ret' As S (PV_ S1)) (hc : CB_ y' cc' nL' ret' n) (hl1 : Cond.methodLink y.cls idx y' ∈ TB_) (hl2 : Cond.static y' ∈ TB_) (hn : As.length = n) (hst : st = As.reverse ++ rest) (hrs : (rest.map fun v => v.category).sum ≤ 8) (hdg : decode cc pc = .ok (.invokestatic idx, 3)) (kk : Rn G sh d y cc nL ret (pc + 3) lv rest S1 post) : Rn G sh d y cc nL ret pc lv st S post := r_callS hd hM hc hl1 hl2 hn hst hrs hdg (fun r S2 hp => by obtain ⟨rfl, rfl⟩ := hp; exact kk)
theorem r_callSNv {d' idx nL' n : Nat} {y' : MethodName} {cc' : ByteArray} {ret' : Option FieldType} {As : List Value} {S1 : St} (hd : d' + 1 ≤ d) (hM : MR_ G sh d' y' cc' nL' ret' As S (PV_ S1)) (hc : CB_ y' cc' nL' ret' n) (hl1 : (y.cls, idx, y') ∈ nest_) (hl2 : Cond.static y' ∈ TB_) (hn : As.length = n) (hst : st = As.reverse ++ rest) (hrs : (rest.map fun v => v.category).sum ≤ 8) (hdg : decode cc pc = .ok (.invokestatic idx, 3)) (kk : Rn G sh d y cc nL ret (pc + 3) lv rest S1 post) : Rn G sh d y cc nL ret pc lv st S post := r_callSN hd hM hc hl1 hl2 hn hst hrs hdg (fun r S2 hp => by obtain ⟨rfl, rfl⟩ := hp; exact kk)
theorem r_callVv {d' idx nL' n k ci : Nat} {ks : List Nat} {y' : MethodName} {cc' : ByteArray} {ret' : Option FieldType} {As : List Value} {q : vw_C} {S1 : St} (hd : d' + 1 ≤ d) (hM : MR_ G sh d' y' cc' nL' ret' (.ref (ad_ G k) :: As) S (PV_ S1)) (h : sh[k]? = some (.inl (ci, ks))) (hq : vwCl[ci]? = some q) (hqc : q.1 = y'.cls) (hc : CB_ y' cc' nL' ret' n) (hl1 : Cond.methodLink y.cls idx y' ∈ TB_) (hl2 : Cond.instanceMethod y' ∈ TB_) (hl3 : Cond.selects y'.cls y' y' ∈ TB_) (hn : As.length = n) (hst : st = As.reverse ++ .ref (ad_ G k) :: rest) (hrs : (rest.map fun v => v.category).sum ≤ 8) (hdg : decode cc pc = .ok (.invokevirtual idx, 3)) (kk : Rn G sh d y cc nL ret (pc + 3) lv rest S1 post) : Rn G sh d y cc nL ret pc lv st S post := r_callV hd hM h hq hqc hc hl1 hl2 hl3 hn hst hrs hdg (fun r S2 hp => by obtain ⟨rfl, rfl⟩ := hp; exact kk)
end RN3
