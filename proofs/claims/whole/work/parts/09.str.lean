set_option maxRecDepth 100000 in
theorem cb_J13_bitCount_95d88 : CB_ yJ13_bitCount_95d88 cJ13_bitCount_95d88 2 (some .int) 1 := ⟨tbm 1110 rfl rfl, tbm 21 (by decide +kernel) (by decide +kernel), by decide, by decide, by decide +kernel, by decide +kernel, by decide +kernel⟩
set_option maxRecDepth 100000 in
theorem cb_J1_charAt_3b067 : CB_ yJ1_charAt_3b067 cJ1_charAt_3b067 2 (some .char) 2 := ⟨tbm 875 rfl rfl, tbm 18 (by decide +kernel) (by decide +kernel), by decide, by decide, by decide +kernel, by decide +kernel, by decide +kernel⟩
set_option maxRecDepth 100000 in
theorem cb_J3_checkIndex_8e157 : CB_ yJ3_checkIndex_8e157 cJ3_checkIndex_8e157 3 (some .int) 3 := ⟨tbm 883 rfl rfl, tbm 19 (by decide +kernel) (by decide +kernel), by decide, by decide, by decide +kernel, by decide +kernel, by decide +kernel⟩
set_option maxRecDepth 100000 in
theorem cb_J0_checkIndex_df160 : CB_ yJ0_checkIndex_df160 cJ0_checkIndex_df160 2 none 2 := ⟨tbm 878 rfl rfl, tbm 17 (by decide +kernel) (by decide +kernel), by decide, by decide, by decide +kernel, by decide +kernel, by decide +kernel⟩
set_option maxRecDepth 100000 in
theorem cb_J0_length_8abf5 : CB_ yJ0_length_8abf5 cJ0_length_8abf5 1 (some .int) 0 := ⟨tbm 858 rfl rfl, tbm 17 (by decide +kernel) (by decide +kernel), by decide, by decide, by decide +kernel, by decide +kernel, by decide +kernel⟩
set_option maxRecDepth 100000 in
theorem cb_J0_charAt_5068e : CB_ yJ0_charAt_5068e cJ0_charAt_5068e 2 (some .char) 1 := ⟨tbm 868 rfl rfl, tbm 17 (by decide +kernel) (by decide +kernel), by decide, by decide, by decide +kernel, by decide +kernel, by decide +kernel⟩
set_option maxRecDepth 100000 in
theorem cb_J0_coder_7d493 : CB_ yJ0_coder_7d493 cJ0_coder_7d493 1 (some .byte) 0 := ⟨tbm 862 rfl rfl, tbm 17 (by decide +kernel) (by decide +kernel), by decide, by decide, by decide +kernel, by decide +kernel, by decide +kernel⟩
set_option maxRecDepth 100000 in
theorem cb_J0_isLatin1_aae02 : CB_ yJ0_isLatin1_aae02 cJ0_isLatin1_aae02 1 (some .boolean) 0 := ⟨tbm 872 rfl rfl, tbm 17 (by decide +kernel) (by decide +kernel), by decide, by decide, by decide +kernel, by decide +kernel, by decide +kernel⟩
/-! TEXTS: String.length and charAt of the five texts, by the JDK's own code -/
section RNS
variable {G : Gx} {sh : List ShE} {d : Nat} {y : MethodName} {cc : ByteArray} {nL : Nat} {ret : Option FieldType} {pc : Nat} {lv : List (Nat × Value)} {st rest : List Value} {S : St} {post : Option Value → St → Prop}
theorem r_ldcS (i : Nat) {idx : Nat} {t : String} (hq : tx_[i]? = some (idx, t)) (hy0 : y.cls = "BurlPipes$Tape") (hdg : decode cc pc = .ok (.ldc idx, 2)) (k : Rn G sh d y cc nL ret (pc + 2) lv (.ref (kS_ G i) :: st) S post) : Rn G sh d y cc nL ret pc lv st S post := by
  intro p e s m args below meth c H locs ls hy hP hS hl
  obtain ⟨hx, hb, hr, hml, hown, hts, hlk, hI, hK, hE⟩ := id hy
  exact va_ldcS hx hb (hy0 ▸ hown) (hE.2.1 i _ hq) hdg (k p e s m args below meth c H locs ls hy hP hS hl)
theorem r_sval {i idx : Nat} (hi : i < 5) (hl1 : Cond.fieldLink y.cls idx "java/lang/String" "value" "[B" ∈ TB_) (hdg : decode cc pc = .ok (.getfield idx, 3)) (k : Rn G sh d y cc nL ret (pc + 3) lv (.ref (kV_ G i) :: rest) S post) : Rn G sh d y cc nL ret pc lv (.ref (kS_ G i) :: rest) S post := by
  intro p e s m args below meth c H locs ls hy hP hS hl
  obtain ⟨hx, hb, hr, hml, hown, hts, hlk, hI, hK, hE⟩ := id hy
  exact vk_getf hx hb (hE.2.2.1.1 i hi).2.2.1 hS hown (hts _ hl1) (fun _ h => h) hdg (k p e s m args below meth c H locs ls hy hP hS hl)
theorem r_scod {i idx : Nat} (hi : i < 5) (hl1 : Cond.fieldLink y.cls idx "java/lang/String" "coder" "B" ∈ TB_) (hdg : decode cc pc = .ok (.getfield idx, 3)) (k : Rn G sh d y cc nL ret (pc + 3) lv (.int 0 :: rest) S post) : Rn G sh d y cc nL ret pc lv (.ref (kS_ G i) :: rest) S post := by
  intro p e s m args below meth c H locs ls hy hP hS hl
  obtain ⟨hx, hb, hr, hml, hown, hts, hlk, hI, hK, hE⟩ := id hy
  exact vk_getf hx hb (hE.2.2.1.1 i hi).2.1 hS hown (hts _ hl1) (fun _ h => h) hdg (k p e s m args below meth c H locs ls hy hP hS hl)
theorem r_svlen {i : Nat} (hi : i < 5) (hdg : decode cc pc = .ok (.arraylength, 1)) (k : Rn G sh d y cc nL ret (pc + 1) lv (.int (Int32.ofNat (txL_.getD i 0)) :: rest) S post) : Rn G sh d y cc nL ret pc lv (.ref (kV_ G i) :: rest) S post := by
  intro p e s m args below meth c H locs ls hy hP hS hl
  obtain ⟨hx, hb, hr, hml, hown, hts, hlk, hI, hK, hE⟩ := id hy
  exact va_tlen hx hb (hE.2.2.1.1 i hi).2.2.2 hS rfl hdg (k p e s m args below meth c H locs ls hy hP hS hl)
theorem r_sbyte {i : Nat} {j : Int32} (hi : i < 5) (hin : vp_in j (txL_.getD i 0)) (hdg : decode cc pc = .ok (.baload, 1)) (k : Rn G sh d y cc nL ret (pc + 1) lv (.int ((txB_.getD i []).getD j.toNatClampNeg 0) :: rest) S post) : Rn G sh d y cc nL ret pc lv (.int j :: .ref (kV_ G i) :: rest) S post := by
  intro p e s m args below meth c H locs ls hy hP hS hl
  obtain ⟨hx, hb, hr, hml, hown, hts, hlk, hI, hK, hE⟩ := id hy
  exact va_tb hx hb (hE.2.2.1.1 i hi).2.2.2 hS hin rfl hdg (k p e s m args below meth c H locs ls hy hP hS hl)
theorem r_getsC {idx : Nat} (hl1 : Cond.fieldLink y.cls idx "java/lang/String" "COMPACT_STRINGS" "Z" ∈ TB_) (hdg : decode cc pc = .ok (.getstatic idx, 3)) (k : Rn G sh d y cc nL ret (pc + 3) lv (.int 1 :: rest) S post) : Rn G sh d y cc nL ret pc lv rest S post := by
  intro p e s m args below meth c H locs ls hy hP hS hl
  obtain ⟨hx, hb, hr, hml, hown, hts, hlk, hI, hK, hE⟩ := id hy
  exact va_gets hx hb hE.2.2.2.1 hS hown (hts _ hl1) (fun _ h => h) hdg (k p e s m args below meth c H locs ls hy hP hS hl)
theorem r_getsQ {idx : Nat} (hl1 : Cond.fieldLink y.cls idx "jdk/internal/util/Preconditions" "SIOOBE_FORMATTER" "Ljava/util/function/BiFunction;" ∈ TB_) (hdg : decode cc pc = .ok (.getstatic idx, 3)) (k : ∀ v : Value, v.category = 1 → (v = .null ∨ ∃ t, v = .ref t) → Rn G sh d y cc nL ret (pc + 3) lv (v :: rest) S post) : Rn G sh d y cc nL ret pc lv rest S post := by
  intro p e s m args below meth c H locs ls hy hP hS hl
  obtain ⟨hx, hb, hr, hml, hown, hts, hlk, hI, hK, hE⟩ := id hy
  rcases hE.2.2.2.2 with hZ | ⟨t, hZ⟩
  · exact va_gets hx hb hZ hS hown (hts _ hl1) (fun _ h => h) hdg (k .null rfl (Or.inl rfl) p e s m args below meth c H locs ls hy hP hS hl)
  · exact va_gets hx hb hZ hS hown (hts _ hl1) (fun _ h => h) hdg (k (.ref t) rfl (Or.inr ⟨t, rfl⟩) p e s m args below meth c H locs ls hy hP hS hl)
theorem r_xreturn {v : Int32} {ty : FieldType} (hret : ret = some ty) (hn : narrow ty (.int v) = .int v) (hdg : decode cc pc = .ok (.ireturn, 1)) (hp : post (some (.int v)) S) : Rn G sh d y cc nL ret pc lv [.int v] S post := by
  intro p e s m args below meth c H locs ls hy hP hS hl
  have hlocks : meth.locks = false := hy.2.2.2.2.2.2.1
  exact W.zret hy.1 hy.2.1 (hy.2.2.1.trans hret) hn (fun t ht hW => ⟨⟨_, S, rfl, hp, by rw [ht]; exact hP⟩, hS.F ht⟩) hS.2.2 hdg
theorem r_i2c {a : Int32} (hdg : decode cc pc = .ok (.i2c, 1)) (k : Rn G sh d y cc nL ret (pc + 1) lv (.int ((a.toUInt32 % 65536).toInt32) :: rest) S post) : Rn G sh d y cc nL ret pc lv (.int a :: rest) S post := by
  intro p e s m args below meth c H locs ls hy hP hS hl
  exact lv_i2c hy.1 hy.2.1 hdg rfl (k p e s m args below meth c H locs ls hy hP hS hl)
/-- a call on one of the texts -/
theorem r_callT {d' idx nL' n i : Nat} {y' : MethodName} {cc' : ByteArray} {ret' : Option FieldType} {As : List Value} {v : Int32} (hi : i < 5) (hd : d' + 1 ≤ d) (hM : MR_ G sh d' y' cc' nL' ret' (.ref (kS_ G i) :: As) S (PI_ v S)) (hqc : y'.cls = "java/lang/String") (hc : CB_ y' cc' nL' ret' n) (hl1 : Cond.methodLink y.cls idx y' ∈ TB_) (hl2 : Cond.instanceMethod y' ∈ TB_) (hl3 : Cond.selects y'.cls y' y' ∈ TB_) (hn : As.length = n) (hst : st = As.reverse ++ .ref (kS_ G i) :: rest) (hrs : (rest.map fun v => v.category).sum ≤ 8) (hdg : decode cc pc = .ok (.invokevirtual idx, 3)) (kk : Rn G sh d y cc nL ret (pc + 3) lv (.int v :: rest) S post) : Rn G sh d y cc nL ret pc lv st S post := by
  intro p e s m args below meth c H locs ls hy hP hS hl
  obtain ⟨hx, hb, hr, hml, hown, hts, hlk, hI, hK, hE⟩ := id hy
  refine W_call (va_runV (C := y'.cls) (As := As) (rest := rest) ⟨hx, hb, hml, hown, hts⟩ (hM hI) ⟨callB_of n hts (TB_in hc.1) rfl rfl rfl (hts _ hc.2.1) (hts _ hl1) hc.2.2.2.2 (room_ hd hc.2.2.1), hts _ hl2, hts _ hl3⟩ ⟨blind_, hqc ▸ vk_recv hE.2.2.1 hi hS, fun U hU hW => ⟨rfl, by rw [hU]; exact hP, va_K.moved hW.alike hK, ?_⟩⟩ rfl hn hl.1 hst (lv_room hrs) hdg ⟨Nat.le_refl _, Nat.le_refl _⟩) hS (fun r S' H1 locs1 hp hP1 hS1 => ?_)
  · rw [hU]
    exact (hE.kept hS.2.1).warm hW
  · obtain ⟨rfl, rfl⟩ := hp
    exact kk p e s m args below meth c H1 locs1 ls hy hP1 hS1 hl
end RNS
section STRM
variable {G : Gx} {sh : List ShE} {S : St} {i : Nat}
theorem mJ0_coder (hi : i < 5) : MR_ G sh 0 yJ0_coder_7d493 cJ0_coder_7d493 1 (some .byte) [.ref (kS_ G i)] S (PI_ 0 S) := by
  refine MR_of cb_J0_coder_7d493 (Nat.le_of_ble_eq_true rfl) [(0, .ref (kS_ G i))] rfl ?_
  refine r_getsC fj_J0_38 dJ0_coder_7d493_0 ?_
  refine r_if_eq 13 dJ0_coder_7d493_3 (by decide) (fun c => absurd c (by decide)) (fun _ => ?_)
  refine r_aload_n 0 dJ0_coder_7d493_6 rfl rfl ?_
  refine r_scod hi fj_J0_15 dJ0_coder_7d493_7 ?_
  refine r_goto 14 dJ0_coder_7d493_10 (by decide) ?_
  exact r_xreturn rfl (by decide) dJ0_coder_7d493_14 ⟨rfl, rfl⟩
theorem mJ0_isLatin1 (hi : i < 5) : MR_ G sh 0 yJ0_isLatin1_aae02 cJ0_isLatin1_aae02 1 (some .boolean) [.ref (kS_ G i)] S (PI_ 1 S) := by
  refine MR_of cb_J0_isLatin1_aae02 (Nat.le_of_ble_eq_true rfl) [(0, .ref (kS_ G i))] rfl ?_
  refine r_getsC fj_J0_38 dJ0_isLatin1_aae02_0 ?_
  refine r_if_eq 17 dJ0_isLatin1_aae02_3 (by decide) (fun c => absurd c (by decide)) (fun _ => ?_)
  refine r_aload_n 0 dJ0_isLatin1_aae02_6 rfl rfl ?_
  refine r_scod hi fj_J0_15 dJ0_isLatin1_aae02_7 ?_
  refine r_if_ne 17 dJ0_isLatin1_aae02_10 (by decide) (fun c => absurd rfl c) (fun _ => ?_)
  refine r_iconst (v := 1) dJ0_isLatin1_aae02_13 rfl ?_
  refine r_goto 18 dJ0_isLatin1_aae02_14 (by decide) ?_
  exact r_zreturn rfl (by decide) dJ0_isLatin1_aae02_18 ⟨rfl, rfl⟩
theorem sl_shr : ∀ i, i < 5 → Int32.ofNat (txL_.getD i 0) >>> ((0 : Int32) &&& 31) = Int32.ofNat (txL_.getD i 0) := by decide +kernel
theorem mJ0_length (hi : i < 5) : MR_ G sh 1 yJ0_length_8abf5 cJ0_length_8abf5 1 (some .int) [.ref (kS_ G i)] S (PI_ (Int32.ofNat (txL_.getD i 0)) S) := by
  refine MR_of cb_J0_length_8abf5 (Nat.le_of_ble_eq_true rfl) [(0, .ref (kS_ G i))] rfl ?_
  refine r_aload_n 0 dJ0_length_8abf5_0 rfl rfl ?_
  refine r_sval hi fj_J0_9 dJ0_length_8abf5_1 ?_
  refine r_svlen hi dJ0_length_8abf5_4 ?_
  refine r_aload_n 0 dJ0_length_8abf5_5 rfl rfl ?_
  refine r_callT (As := []) (rest := [.int (Int32.ofNat (txL_.getD i 0))]) hi (by omega) (mJ0_coder hi) rfl cb_J0_coder_7d493 ml_J0_335 im_J0_coder_7d493 se_J0_coder_7d493 rfl rfl (Nat.le_of_ble_eq_true rfl) dJ0_length_8abf5_6 ?_
  refine r_ishr dJ0_length_8abf5_9 ?_
  rw [sl_shr i hi]
  exact r_ireturn rfl dJ0_length_8abf5_10 ⟨rfl, rfl⟩
theorem mJ3_check {a b : Int32} {v : Value} (hv : v = .null ∨ ∃ t, v = .ref t) (h1 : ¬ a < 0) (h2 : a < b) : MR_ G sh 0 yJ3_checkIndex_8e157 cJ3_checkIndex_8e157 3 (some .int) [.int a, .int b, v] S (PI_ a S) := by
  have key : ∀ v : Value, (lg_sl [.int a, .int b, v]).length ≤ 3 → lv_args 0 [.int a, .int b, v] = [(0, .int a), (1, .int b), (2, v)] → MR_ G sh 0 yJ3_checkIndex_8e157 cJ3_checkIndex_8e157 3 (some .int) [.int a, .int b, v] S (PI_ a S) := by
    intro v e1 e2
    refine MR_of cb_J3_checkIndex_8e157 e1 [(0, .int a), (1, .int b), (2, v)] e2 ?_
    refine r_iload_n 0 dJ3_checkIndex_8e157_0 rfl rfl ?_
    refine r_if_lt 9 dJ3_checkIndex_8e157_1 (by decide) (fun c => absurd c h1) (fun _ => ?_)
    refine r_iload_n 0 dJ3_checkIndex_8e157_4 rfl rfl ?_
    refine r_iload_n 1 dJ3_checkIndex_8e157_5 rfl rfl ?_
    refine r_icmp_lt 16 dJ3_checkIndex_8e157_6 (by decide) (fun _ => ?_) (fun c => absurd h2 c)
    refine r_iload_n 0 dJ3_checkIndex_8e157_16 rfl rfl ?_
    exact r_ireturn rfl dJ3_checkIndex_8e157_17 ⟨rfl, rfl⟩
  rcases hv with rfl | ⟨t, rfl⟩
  · exact key _ (Nat.le_of_ble_eq_true rfl) rfl
  · exact key _ (Nat.le_of_ble_eq_true rfl) rfl
theorem mJ0_check {a b : Int32} (h1 : ¬ a < 0) (h2 : a < b) : MR_ G sh 1 yJ0_checkIndex_df160 cJ0_checkIndex_df160 2 none [.int a, .int b] S (PV_ S) := by
  refine MR_of cb_J0_checkIndex_df160 (Nat.le_of_ble_eq_true rfl) [(0, .int a), (1, .int b)] rfl ?_
  refine r_iload_n 0 dJ0_checkIndex_df160_0 rfl rfl ?_
  refine r_iload_n 1 dJ0_checkIndex_df160_1 rfl rfl ?_
  refine r_getsQ fj_J0_1053 dJ0_checkIndex_df160_2 (fun v hc hv => ?_)
  refine r_callSi (rest := []) (by omega) (mJ3_check hv h1 h2) cb_J3_checkIndex_8e157 ml_J0_1059 sm_J3_checkIndex_8e157 rfl rfl (Nat.le_of_ble_eq_true rfl) dJ0_checkIndex_df160_5 ?_
  refine r_pop dJ0_checkIndex_df160_8 rfl ?_
  exact r_return rfl dJ0_checkIndex_df160_9 ⟨rfl, rfl⟩
theorem sc_in : ∀ i, i < 5 → txL_.getD i 0 < 2 ^ 31 := by decide +kernel
theorem sc_lt {i : Nat} {k : Int32} (hi : i < 5) (h : vp_in k (txL_.getD i 0)) : ¬ k < 0 ∧ k < Int32.ofNat (txL_.getD i 0) := by
  obtain ⟨j, hj, rfl⟩ := vp_in_of h (sc_in i hi)
  exact ⟨nI_pos (Nat.lt_trans hj (sc_in i hi)), nI_lt hj (sc_in i hi)⟩
theorem sc_byte : ∀ i, i < 5 → ∀ j, j < txL_.getD i 0 → ((((txB_.getD i []).getD j 0) &&& 255).toUInt32 % 65536).toInt32 = (txB_.getD i []).getD j 0 ∧ narrow .char (.int ((txB_.getD i []).getD j 0)) = .int ((txB_.getD i []).getD j 0) := by decide +kernel
theorem mJ1_charAt {k : Int32} (hi : i < 5) (h : vp_in k (txL_.getD i 0)) : MR_ G sh 2 yJ1_charAt_3b067 cJ1_charAt_3b067 2 (some .char) [.ref (kV_ G i), .int k] S (PI_ ((txB_.getD i []).getD k.toNatClampNeg 0) S) := by
  have hb := sc_byte i hi k.toNatClampNeg (Nat.not_le.mp fun q => h (Or.inr q))
  refine MR_of cb_J1_charAt_3b067 (Nat.le_of_ble_eq_true rfl) [(0, .ref (kV_ G i)), (1, .int k)] rfl ?_
  refine r_iload_n 1 dJ1_charAt_3b067_0 rfl rfl ?_
  refine r_aload_n 0 dJ1_charAt_3b067_1 rfl rfl ?_
  refine r_svlen hi dJ1_charAt_3b067_2 ?_
  refine r_callSv (rest := []) (by omega) (mJ0_check (sc_lt hi h).1 (sc_lt hi h).2) cb_J0_checkIndex_df160 ml_J1_9 sm_J0_checkIndex_df160 rfl rfl (Nat.le_of_ble_eq_true rfl) dJ1_charAt_3b067_3 ?_
  refine r_aload_n 0 dJ1_charAt_3b067_6 rfl rfl ?_
  refine r_iload_n 1 dJ1_charAt_3b067_7 rfl rfl ?_
  refine r_sbyte hi h dJ1_charAt_3b067_8 ?_
  refine r_sipush (v := 255) dJ1_charAt_3b067_9 rfl ?_
  refine r_iand dJ1_charAt_3b067_12 ?_
  refine r_i2c dJ1_charAt_3b067_13 ?_
  rw [hb.1]
  exact r_xreturn rfl hb.2 dJ1_charAt_3b067_14 ⟨rfl, rfl⟩
theorem mJ0_charAt {k : Int32} (hi : i < 5) (h : vp_in k (txL_.getD i 0)) : MR_ G sh 3 yJ0_charAt_5068e cJ0_charAt_5068e 2 (some .char) [.ref (kS_ G i), .int k] S (PI_ ((txB_.getD i []).getD k.toNatClampNeg 0) S) := by
  have hb := sc_byte i hi k.toNatClampNeg (Nat.not_le.mp fun q => h (Or.inr q))
  refine MR_of cb_J0_charAt_5068e (Nat.le_of_ble_eq_true rfl) [(0, .ref (kS_ G i)), (1, .int k)] rfl ?_
  refine r_aload_n 0 dJ0_charAt_5068e_0 rfl rfl ?_
  refine r_callT (As := []) (rest := []) hi (by omega) (mJ0_isLatin1 hi) rfl cb_J0_isLatin1_aae02 ml_J0_492 im_J0_isLatin1_aae02 se_J0_isLatin1_aae02 rfl rfl (Nat.le_of_ble_eq_true rfl) dJ0_charAt_5068e_1 ?_
  refine r_if_eq 16 dJ0_charAt_5068e_4 (by decide) (fun c => absurd c (by decide)) (fun _ => ?_)
  refine r_aload_n 0 dJ0_charAt_5068e_7 rfl rfl ?_
  refine r_sval hi fj_J0_9 dJ0_charAt_5068e_8 ?_
  refine r_iload_n 1 dJ0_charAt_5068e_11 rfl rfl ?_
  refine r_callSi (rest := []) (by omega) (mJ1_charAt hi h) cb_J1_charAt_3b067 ml_J0_495 sm_J1_charAt_3b067 rfl rfl (Nat.le_of_ble_eq_true rfl) dJ0_charAt_5068e_12 ?_
  exact r_xreturn rfl hb.2 dJ0_charAt_5068e_15 ⟨rfl, rfl⟩
end STRM
section RNS2
variable {G : Gx} {sh : List ShE} {d : Nat} {y : MethodName} {cc : ByteArray} {nL : Nat} {ret : Option FieldType} {pc : Nat} {lv : List (Nat × Value)} {st rest : List Value} {S : St} {post : Option Value → St → Prop}
theorem r_slen {i idx : Nat} {v : Int32} (hd : 4 ≤ d) (hl1 : Cond.methodLink y.cls idx yJ0_length_8abf5 ∈ TB_) (h : slen_ i = some v) (hrs : (rest.map fun v => v.category).sum ≤ 8) (hdg : decode cc pc = .ok (.invokevirtual idx, 3)) (kk : Rn G sh d y cc nL ret (pc + 3) lv (.int v :: rest) S post) : Rn G sh d y cc nL ret pc lv (.ref (kS_ G i) :: rest) S post := by
  unfold slen_ at h
  split at h
  · rename_i hi
    cases h
    exact r_callT (As := []) (rest := rest) hi (by omega) (mJ0_length hi) rfl cb_J0_length_8abf5 hl1 im_J0_length_8abf5 se_J0_length_8abf5 rfl rfl hrs hdg kk
  · cases h
theorem r_schar {i idx : Nat} {k v : Int32} (hd : 4 ≤ d) (hl1 : Cond.methodLink y.cls idx yJ0_charAt_5068e ∈ TB_) (h : schar_ i k = some v) (hrs : (rest.map fun v => v.category).sum ≤ 8) (hdg : decode cc pc = .ok (.invokevirtual idx, 3)) (kk : Rn G sh d y cc nL ret (pc + 3) lv (.int v :: rest) S post) : Rn G sh d y cc nL ret pc lv (.int k :: .ref (kS_ G i) :: rest) S post := by
  unfold schar_ at h
  split at h
  · rename_i hi
    split at h
    · cases h
    · rename_i hk
      cases h
      exact r_callT (As := [.int k]) (rest := rest) hi (by omega) (mJ0_charAt hi hk) rfl cb_J0_charAt_5068e hl1 im_J0_charAt_5068e se_J0_charAt_5068e rfl rfl hrs hdg kk
  · cases h
end RNS2
