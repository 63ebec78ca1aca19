set_option maxRecDepth 100000 in
set_option maxHeartbeats 4000000 in
theorem tX12_in {G : Gx} {post : Option Value → St → Prop} {S : St} {v0 : Int64} {v2 : Int64} {v4 : Int64} {o : Int32}  (h : fX12_in S v0 v2 v4 = some o) (hp : post (some (.int o)) S) : Rn G shM 0 yX12_in cX12_in 6 (some .boolean) 0 [(0, .long v0), (2, .long v2), (4, .long v4)] [] S post := by
  unfold fX12_in at h
  refine r_lload_n 0 dX12_in_0 rfl rfl ?_
  refine r_lload_n 1 dX12_in_1 rfl rfl ?_
  refine r_lcmp dX12_in_2 ?_
  refine r_if_lt 17 dX12_in_3 (by decide) (fun c22 => ?_) (fun c22 => ?_)
  · rw [if_pos c22] at h
    refine r_iconst (v := 0) dX12_in_17 rfl ?_
    obtain rfl := Option.some.inj h
    exact r_zreturn rfl (by decide) dX12_in_18 (hp)
  · rw [if_neg c22] at h
    refine r_lload_n 0 dX12_in_6 rfl rfl ?_
    refine r_lload 2 dX12_in_7 rfl ?_
    refine r_lcmp dX12_in_9 ?_
    refine r_if_gt 17 dX12_in_10 (by decide) (fun c21 => ?_) (fun c21 => ?_)
    · rw [if_pos c21] at h
      refine r_iconst (v := 0) dX12_in_17 rfl ?_
      obtain rfl := Option.some.inj h
      exact r_zreturn rfl (by decide) dX12_in_18 (hp)
    · rw [if_neg c21] at h
      refine r_iconst (v := 1) dX12_in_13 rfl ?_
      refine r_goto 18 dX12_in_14 (by decide) ?_
      obtain rfl := Option.some.inj h
      exact r_zreturn rfl (by decide) dX12_in_18 (hp)
theorem mX12_in {G : Gx} {S : St} {v0 : Int64} {v2 : Int64} {v4 : Int64} {o : Int32}  (h : fX12_in S v0 v2 v4 = some o) : MR_ G shM 0 yX12_in cX12_in 6 (some .boolean) [.long v0, .long v2, .long v4] S (PI_ o S) := MR_of cb_X12_in (Nat.le_of_ble_eq_true rfl) [(0, .long v0), (2, .long v2), (4, .long v4)] rfl (tX12_in  h ⟨rfl, rfl⟩)
set_option maxRecDepth 100000 in
set_option maxHeartbeats 4000000 in
theorem tX12_isSquare {G : Gx} {post : Option Value → St → Prop} {S : St} {v1 : Int32} {v2 : Int32} {o : Int32}  (h : fX12_isSquare S v1 v2 = some o) (hp : post (some (.int o)) S) : Rn G shM 1 yX12_isSquare cX12_isSquare 3 (some .boolean) 0 [(0, .ref (ad_ G 0)), (1, .int v1), (2, .int v2)] [] S post := by
  unfold fX12_isSquare at h
  refine r_iload_n 1 dX12_isSquare_0 rfl rfl ?_
  refine r_i2l dX12_isSquare_1 ?_
  refine r_lconst (v := 0) dX12_isSquare_2 rfl ?_
  refine r_aload_n 0 dX12_isSquare_3 rfl rfl ?_
  refine r_getI (k := 0) (j := 0) sM_0 rfl fl_X12_7 dX12_isSquare_4 ?_
  refine r_iconst (v := 1) dX12_isSquare_7 rfl ?_
  refine r_isub dX12_isSquare_8 ?_
  refine r_i2l dX12_isSquare_9 ?_
  obtain ⟨x21, hx21, h⟩ := b1_some h
  refine r_callSi (rest := []) (by omega) (mX12_in hx21) cb_X12_in ml_X12_145 sm_X12_in rfl rfl (Nat.le_of_ble_eq_true rfl) dX12_isSquare_10 ?_
  refine r_if_eq 36 dX12_isSquare_13 (by decide) (fun c24 => ?_) (fun c24 => ?_)
  · rw [if_pos c24] at h
    refine r_iconst (v := 0) dX12_isSquare_36 rfl ?_
    obtain rfl := Option.some.inj h
    exact r_zreturn rfl (by decide) dX12_isSquare_37 (hp)
  · rw [if_neg c24] at h
    refine r_iload_n 2 dX12_isSquare_16 rfl rfl ?_
    refine r_i2l dX12_isSquare_17 ?_
    refine r_lconst (v := 0) dX12_isSquare_18 rfl ?_
    refine r_aload_n 0 dX12_isSquare_19 rfl rfl ?_
    refine r_getI (k := 0) (j := 1) sM_0 rfl fl_X12_13 dX12_isSquare_20 ?_
    refine r_iconst (v := 1) dX12_isSquare_23 rfl ?_
    refine r_isub dX12_isSquare_24 ?_
    refine r_i2l dX12_isSquare_25 ?_
    obtain ⟨x22, hx22, h⟩ := b1_some h
    refine r_callSi (rest := []) (by omega) (mX12_in hx22) cb_X12_in ml_X12_145 sm_X12_in rfl rfl (Nat.le_of_ble_eq_true rfl) dX12_isSquare_26 ?_
    refine r_if_eq 36 dX12_isSquare_29 (by decide) (fun c23 => ?_) (fun c23 => ?_)
    · rw [if_pos c23] at h
      refine r_iconst (v := 0) dX12_isSquare_36 rfl ?_
      obtain rfl := Option.some.inj h
      exact r_zreturn rfl (by decide) dX12_isSquare_37 (hp)
    · rw [if_neg c23] at h
      refine r_iconst (v := 1) dX12_isSquare_32 rfl ?_
      refine r_goto 37 dX12_isSquare_33 (by decide) ?_
      obtain rfl := Option.some.inj h
      exact r_zreturn rfl (by decide) dX12_isSquare_37 (hp)
theorem mX12_isSquare {G : Gx} {S : St} {v1 : Int32} {v2 : Int32} {o : Int32}  (h : fX12_isSquare S v1 v2 = some o) : MR_ G shM 1 yX12_isSquare cX12_isSquare 3 (some .boolean) [.ref (ad_ G 0), .int v1, .int v2] S (PI_ o S) := MR_of cb_X12_isSquare (Nat.le_of_ble_eq_true rfl) [(0, .ref (ad_ G 0)), (1, .int v1), (2, .int v2)] rfl (tX12_isSquare  h ⟨rfl, rfl⟩)
set_option maxRecDepth 100000 in
set_option maxHeartbeats 4000000 in
theorem tX12_isBlock {G : Gx} {post : Option Value → St → Prop} {S : St} {v1 : Int32} {v2 : Int32} {v3 : Int32} {v4 : Int32} {o : Int32}  (h : fX12_isBlock S v1 v2 v3 v4 = some o) (hp : post (some (.int o)) S) : Rn G shM 2 yX12_isBlock cX12_isBlock 5 (some .boolean) 0 [(0, .ref (ad_ G 0)), (1, .int v1), (2, .int v2), (3, .int v3), (4, .int v4)] [] S post := by
  unfold fX12_isBlock at h
  refine r_aload_n 0 dX12_isBlock_0 rfl rfl ?_
  refine r_iload_n 1 dX12_isBlock_1 rfl rfl ?_
  refine r_iload_n 2 dX12_isBlock_2 rfl rfl ?_
  obtain ⟨x21, hx21, h⟩ := b1_some h
  refine r_callVi (k := 0) (rest := []) (by omega) (mX12_isSquare hx21) sM_0 rfl rfl cb_X12_isSquare ml_X12_149 im_X12_isSquare se_X12_isSquare rfl rfl (Nat.le_of_ble_eq_true rfl) dX12_isBlock_3 ?_
  refine r_if_eq 46 dX12_isBlock_6 (by decide) (fun c26 => ?_) (fun c26 => ?_)
  · rw [if_pos c26] at h
    refine r_iconst (v := 0) dX12_isBlock_46 rfl ?_
    obtain rfl := Option.some.inj h
    exact r_zreturn rfl (by decide) dX12_isBlock_47 (hp)
  · rw [if_neg c26] at h
    refine r_iload_n 3 dX12_isBlock_9 rfl rfl ?_
    refine r_i2l dX12_isBlock_10 ?_
    refine r_lconst (v := 1) dX12_isBlock_11 rfl ?_
    refine r_aload_n 0 dX12_isBlock_12 rfl rfl ?_
    refine r_getI (k := 0) (j := 0) sM_0 rfl fl_X12_7 dX12_isBlock_13 ?_
    refine r_iload_n 1 dX12_isBlock_16 rfl rfl ?_
    refine r_isub dX12_isBlock_17 ?_
    refine r_i2l dX12_isBlock_18 ?_
    obtain ⟨x22, hx22, h⟩ := b1_some h
    refine r_callSi (rest := []) (by omega) (mX12_in hx22) cb_X12_in ml_X12_145 sm_X12_in rfl rfl (Nat.le_of_ble_eq_true rfl) dX12_isBlock_19 ?_
    refine r_if_eq 46 dX12_isBlock_22 (by decide) (fun c25 => ?_) (fun c25 => ?_)
    · rw [if_pos c25] at h
      refine r_iconst (v := 0) dX12_isBlock_46 rfl ?_
      obtain rfl := Option.some.inj h
      exact r_zreturn rfl (by decide) dX12_isBlock_47 (hp)
    · rw [if_neg c25] at h
      refine r_iload 4 dX12_isBlock_25 rfl ?_
      refine r_i2l dX12_isBlock_27 ?_
      refine r_lconst (v := 1) dX12_isBlock_28 rfl ?_
      refine r_aload_n 0 dX12_isBlock_29 rfl rfl ?_
      refine r_getI (k := 0) (j := 1) sM_0 rfl fl_X12_13 dX12_isBlock_30 ?_
      refine r_iload_n 2 dX12_isBlock_33 rfl rfl ?_
      refine r_isub dX12_isBlock_34 ?_
      refine r_i2l dX12_isBlock_35 ?_
      obtain ⟨x23, hx23, h⟩ := b1_some h
      refine r_callSi (rest := []) (by omega) (mX12_in hx23) cb_X12_in ml_X12_145 sm_X12_in rfl rfl (Nat.le_of_ble_eq_true rfl) dX12_isBlock_36 ?_
      refine r_if_eq 46 dX12_isBlock_39 (by decide) (fun c24 => ?_) (fun c24 => ?_)
      · rw [if_pos c24] at h
        refine r_iconst (v := 0) dX12_isBlock_46 rfl ?_
        obtain rfl := Option.some.inj h
        exact r_zreturn rfl (by decide) dX12_isBlock_47 (hp)
      · rw [if_neg c24] at h
        refine r_iconst (v := 1) dX12_isBlock_42 rfl ?_
        refine r_goto 47 dX12_isBlock_43 (by decide) ?_
        obtain rfl := Option.some.inj h
        exact r_zreturn rfl (by decide) dX12_isBlock_47 (hp)
theorem mX12_isBlock {G : Gx} {S : St} {v1 : Int32} {v2 : Int32} {v3 : Int32} {v4 : Int32} {o : Int32}  (h : fX12_isBlock S v1 v2 v3 v4 = some o) : MR_ G shM 2 yX12_isBlock cX12_isBlock 5 (some .boolean) [.ref (ad_ G 0), .int v1, .int v2, .int v3, .int v4] S (PI_ o S) := MR_of cb_X12_isBlock (Nat.le_of_ble_eq_true rfl) [(0, .ref (ad_ G 0)), (1, .int v1), (2, .int v2), (3, .int v3), (4, .int v4)] rfl (tX12_isBlock  h ⟨rfl, rfl⟩)
set_option maxRecDepth 100000 in
set_option maxHeartbeats 4000000 in
theorem tX12_keeps {G : Gx} {post : Option Value → St → Prop} {S : St} {o : St}  (h : fX12_keeps S = some o) (hp : post none o) : Rn G shM 0 yX12_keeps cX12_keeps 2 none 0 [(0, .ref (ad_ G 0))] [] S post := by
  unfold fX12_keeps at h
  refine r_aload_n 0 dX12_keeps_0 rfl rfl ?_
  refine r_getI (k := 0) (j := 6) sM_0 rfl fl_X12_153 dX12_keeps_1 ?_
  refine r_bipush (v := 8) dX12_keeps_4 rfl ?_
  obtain ⟨w21, hw21, h⟩ := b1_some h
  have hJ : Rn G shM 0 yX12_keeps cX12_keeps 2 none 65 [(0, .ref (ad_ G 0))] [] w21 post := by
    refine r_iconst (v := 0) dX12_keeps_65 rfl ?_
    refine r_istore_n (i := 1) [(0, .ref (ad_ G 0)), (1, .int 0)] [1, 0] dX12_keeps_66 rfl (by decide) rfl ?_
    have key : ∀ ex, lp (fun w22 : Int32 × St => bX12_keeps_67  w22.1 w22.2) 5000 (0, w21) = some ex → (fun u30 : St => Rn G shM 0 yX12_keeps cX12_keeps 2 none 119 [(0, .ref (ad_ G 0))] [] u30 post) ex → Rn G shM 0 yX12_keeps cX12_keeps 2 none 67 [(0, .ref (ad_ G 0)), (1, .int 0)] [] w21 post := by
      intro ex hl hx
      refine lp_rule (body := (fun w22 : Int32 × St => bX12_keeps_67  w22.1 w22.2)) (R := (fun w22 : Int32 × St => Rn G shM 0 yX12_keeps cX12_keeps 2 none 67 [(0, .ref (ad_ G 0)), (1, .int w22.1)] [] w22.2 post)) (X := (fun u30 : St => Rn G shM 0 yX12_keeps cX12_keeps 2 none 119 [(0, .ref (ad_ G 0))] [] u30 post)) ?_ 5000 (0, w21) ex hl hx
      intro w22 oo h hB hX
      obtain ⟨v23, S24⟩ := w22
      replace h : bX12_keeps_67  v23 S24 = some oo := h
      unfold bX12_keeps_67 at h
      show Rn G shM 0 yX12_keeps cX12_keeps 2 none 67 [(0, .ref (ad_ G 0)), (1, .int v23)] [] S24 post
      refine r_iload_n 1 dX12_keeps_67 rfl rfl ?_
      refine r_bipush (v := 64) dX12_keeps_68 rfl ?_
      refine r_icmp_ge 119 dX12_keeps_70 (by decide) (fun c29 => ?_) (fun c29 => ?_)
      · rw [if_pos c29] at h
        refine r_sub [(0, .ref (ad_ G 0))] [0] rfl ?_
        obtain rfl := Option.some.inj h
        exact hX S24 rfl
      · rw [if_neg c29] at h
        refine r_aload_n 0 dX12_keeps_73 rfl rfl ?_
        refine r_getC (k := 0) (j := 7) (r := 4) sM_0 rfl fl_X12_27 dX12_keeps_74 ?_
        refine r_bipush (v := 64) dX12_keeps_77 rfl ?_
        refine r_aload_n 0 dX12_keeps_79 rfl rfl ?_
        refine r_getI (k := 0) (j := 6) sM_0 rfl fl_X12_153 dX12_keeps_80 ?_
        refine r_imul dX12_keeps_83 ?_
        refine r_iload_n 1 dX12_keeps_84 rfl rfl ?_
        refine r_iadd dX12_keeps_85 ?_
        refine r_aload_n 0 dX12_keeps_86 rfl rfl ?_
        refine r_getC (k := 0) (j := 2) (r := 1) sM_0 rfl fl_X12_16 dX12_keeps_87 ?_
        refine r_iload_n 1 dX12_keeps_90 rfl rfl ?_
        obtain ⟨x25, hx25, h⟩ := b1_some h
        refine r_zaload sM_1 hx25 dX12_keeps_91 ?_
        obtain ⟨S26, hS26, h⟩ := b1_some h
        refine r_zastore sM_4 hS26 dX12_keeps_92 ?_
        refine r_aload_n 0 dX12_keeps_93 rfl rfl ?_
        refine r_getC (k := 0) (j := 8) (r := 5) sM_0 rfl fl_X12_30 dX12_keeps_94 ?_
        refine r_bipush (v := 64) dX12_keeps_97 rfl ?_
        refine r_aload_n 0 dX12_keeps_99 rfl rfl ?_
        refine r_getI (k := 0) (j := 6) sM_0 rfl fl_X12_153 dX12_keeps_100 ?_
        refine r_imul dX12_keeps_103 ?_
        refine r_iload_n 1 dX12_keeps_104 rfl rfl ?_
        refine r_iadd dX12_keeps_105 ?_
        refine r_aload_n 0 dX12_keeps_106 rfl rfl ?_
        refine r_getC (k := 0) (j := 3) (r := 2) sM_0 rfl fl_X12_20 dX12_keeps_107 ?_
        refine r_iload_n 1 dX12_keeps_110 rfl rfl ?_
        obtain ⟨x27, hx27, h⟩ := b1_some h
        refine r_iaload sM_2 hx27 dX12_keeps_111 ?_
        obtain ⟨S28, hS28, h⟩ := b1_some h
        refine r_iastore sM_5 hS28 dX12_keeps_112 ?_
        refine r_iinc (v := v23 + 1) [(0, .ref (ad_ G 0)), (1, .int (v23 + 1))] 1 [1, 0] dX12_keeps_113 rfl rfl (by decide) rfl ?_
        refine r_goto 67 dX12_keeps_116 (by decide) ?_
        obtain rfl := Option.some.inj h
        exact hB (v23 + 1, S28) rfl
    obtain ⟨u30, hu30, h⟩ := b1_some h
    refine key u30 hu30 ?_
    show Rn G shM 0 yX12_keeps cX12_keeps 2 none 119 [(0, .ref (ad_ G 0))] [] u30 post
    refine r_aload_n 0 dX12_keeps_119 rfl rfl ?_
    refine r_dup dX12_keeps_120 rfl ?_
    refine r_getI (k := 0) (j := 6) sM_0 rfl fl_X12_153 dX12_keeps_121 ?_
    refine r_iconst (v := 1) dX12_keeps_124 rfl ?_
    refine r_iadd dX12_keeps_125 ?_
    obtain ⟨S31, hS31, h⟩ := b1_some h
    refine r_setI (k := 0) (j := 6) sM_0 rfl pf_X12_153 hS31 dX12_keeps_126 ?_
    obtain rfl := Option.some.inj h
    exact r_return rfl dX12_keeps_129 (hp)
  clear h
  replace h := hw21
  refine r_icmp_ne 65 dX12_keeps_6 (by decide) (fun c42 => ?_) (fun c42 => ?_)
  · rw [if_neg c42] at h
    obtain rfl := Option.some.inj h
    exact hJ
  · rw [if_pos c42] at h
    refine r_bipush (v := 64) dX12_keeps_9 rfl ?_
    refine r_istore_n (i := 1) [(0, .ref (ad_ G 0)), (1, .int 64)] [1, 0] dX12_keeps_11 rfl (by decide) rfl ?_
    have key : ∀ ex, lp (fun w32 : Int32 × St => bX12_keeps_12  w32.1 w32.2) 5000 (64, S) = some ex → (fun u40 : St => Rn G shM 0 yX12_keeps cX12_keeps 2 none 55 [(0, .ref (ad_ G 0))] [] u40 post) ex → Rn G shM 0 yX12_keeps cX12_keeps 2 none 12 [(0, .ref (ad_ G 0)), (1, .int 64)] [] S post := by
      intro ex hl hx
      refine lp_rule (body := (fun w32 : Int32 × St => bX12_keeps_12  w32.1 w32.2)) (R := (fun w32 : Int32 × St => Rn G shM 0 yX12_keeps cX12_keeps 2 none 12 [(0, .ref (ad_ G 0)), (1, .int w32.1)] [] w32.2 post)) (X := (fun u40 : St => Rn G shM 0 yX12_keeps cX12_keeps 2 none 55 [(0, .ref (ad_ G 0))] [] u40 post)) ?_ 5000 (64, S) ex hl hx
      intro w32 oo h hB hX
      obtain ⟨v33, S34⟩ := w32
      replace h : bX12_keeps_12  v33 S34 = some oo := h
      unfold bX12_keeps_12 at h
      show Rn G shM 0 yX12_keeps cX12_keeps 2 none 12 [(0, .ref (ad_ G 0)), (1, .int v33)] [] S34 post
      refine r_iload_n 1 dX12_keeps_12 rfl rfl ?_
      refine r_sipush (v := 512) dX12_keeps_13 rfl ?_
      refine r_icmp_ge 55 dX12_keeps_16 (by decide) (fun c39 => ?_) (fun c39 => ?_)
      · rw [if_pos c39] at h
        refine r_sub [(0, .ref (ad_ G 0))] [0] rfl ?_
        obtain rfl := Option.some.inj h
        exact hX S34 rfl
      · rw [if_neg c39] at h
        refine r_aload_n 0 dX12_keeps_19 rfl rfl ?_
        refine r_getC (k := 0) (j := 7) (r := 4) sM_0 rfl fl_X12_27 dX12_keeps_20 ?_
        refine r_iload_n 1 dX12_keeps_23 rfl rfl ?_
        refine r_bipush (v := 64) dX12_keeps_24 rfl ?_
        refine r_isub dX12_keeps_26 ?_
        refine r_aload_n 0 dX12_keeps_27 rfl rfl ?_
        refine r_getC (k := 0) (j := 7) (r := 4) sM_0 rfl fl_X12_27 dX12_keeps_28 ?_
        refine r_iload_n 1 dX12_keeps_31 rfl rfl ?_
        obtain ⟨x35, hx35, h⟩ := b1_some h
        refine r_zaload sM_4 hx35 dX12_keeps_32 ?_
        obtain ⟨S36, hS36, h⟩ := b1_some h
        refine r_zastore sM_4 hS36 dX12_keeps_33 ?_
        refine r_aload_n 0 dX12_keeps_34 rfl rfl ?_
        refine r_getC (k := 0) (j := 8) (r := 5) sM_0 rfl fl_X12_30 dX12_keeps_35 ?_
        refine r_iload_n 1 dX12_keeps_38 rfl rfl ?_
        refine r_bipush (v := 64) dX12_keeps_39 rfl ?_
        refine r_isub dX12_keeps_41 ?_
        refine r_aload_n 0 dX12_keeps_42 rfl rfl ?_
        refine r_getC (k := 0) (j := 8) (r := 5) sM_0 rfl fl_X12_30 dX12_keeps_43 ?_
        refine r_iload_n 1 dX12_keeps_46 rfl rfl ?_
        obtain ⟨x37, hx37, h⟩ := b1_some h
        refine r_iaload sM_5 hx37 dX12_keeps_47 ?_
        obtain ⟨S38, hS38, h⟩ := b1_some h
        refine r_iastore sM_5 hS38 dX12_keeps_48 ?_
        refine r_iinc (v := v33 + 1) [(0, .ref (ad_ G 0)), (1, .int (v33 + 1))] 1 [1, 0] dX12_keeps_49 rfl rfl (by decide) rfl ?_
        refine r_goto 12 dX12_keeps_52 (by decide) ?_
        obtain rfl := Option.some.inj h
        exact hB (v33 + 1, S38) rfl
    obtain ⟨u40, hu40, h⟩ := b1_some h
    refine key u40 hu40 ?_
    show Rn G shM 0 yX12_keeps cX12_keeps 2 none 55 [(0, .ref (ad_ G 0))] [] u40 post
    refine r_aload_n 0 dX12_keeps_55 rfl rfl ?_
    refine r_dup dX12_keeps_56 rfl ?_
    refine r_getI (k := 0) (j := 6) sM_0 rfl fl_X12_153 dX12_keeps_57 ?_
    refine r_iconst (v := 1) dX12_keeps_60 rfl ?_
    refine r_isub dX12_keeps_61 ?_
    obtain ⟨S41, hS41, h⟩ := b1_some h
    refine r_setI (k := 0) (j := 6) sM_0 rfl pf_X12_153 hS41 dX12_keeps_62 ?_
    obtain rfl := Option.some.inj h
    exact hJ
theorem mX12_keeps {G : Gx} {S : St} {o : St}  (h : fX12_keeps S = some o) : MR_ G shM 0 yX12_keeps cX12_keeps 2 none [.ref (ad_ G 0)] S (PV_ o) := MR_of cb_X12_keeps (Nat.le_of_ble_eq_true rfl) [(0, .ref (ad_ G 0))] rfl (tX12_keeps  h ⟨rfl, rfl⟩)
set_option maxRecDepth 100000 in
set_option maxHeartbeats 4000000 in
theorem tX12_burl {G : Gx} {post : Option Value → St → Prop} {S : St} {v1 : Int32} {v2 : Int32} {o : (Int32 × St)}  (h : fX12_burl S v1 v2 = some o) (hp : post (some (.int o.1)) o.2) : Rn G shM 1 yX12_burl cX12_burl 4 (some .int) 0 [(0, .ref (ad_ G 0)), (1, .int v1), (2, .int v2)] [] S post := by
  unfold fX12_burl at h
  refine r_iload_n 1 dX12_burl_0 rfl rfl ?_
  refine r_i2l dX12_burl_1 ?_
  refine r_lconst (v := 1) dX12_burl_2 rfl ?_
  refine r_ldc2 kl_X12_156 dX12_burl_3 ?_
  obtain ⟨x21, hx21, h⟩ := b1_some h
  refine r_callSi (rest := []) (by omega) (mX12_in hx21) cb_X12_in ml_X12_145 sm_X12_in rfl rfl (Nat.le_of_ble_eq_true rfl) dX12_burl_6 ?_
  refine r_if_eq 24 dX12_burl_9 (by decide) (fun c35 => ?_) (fun c35 => ?_)
  · rw [if_pos c35] at h
    refine r_iconst (v := (-1)) dX12_burl_24 rfl ?_
    obtain rfl := Option.some.inj h
    exact r_ireturn rfl dX12_burl_25 (hp)
  · rw [if_neg c35] at h
    refine r_iload_n 2 dX12_burl_12 rfl rfl ?_
    refine r_i2l dX12_burl_13 ?_
    refine r_lconst (v := 1) dX12_burl_14 rfl ?_
    refine r_ldc2 kl_X12_156 dX12_burl_15 ?_
    obtain ⟨x22, hx22, h⟩ := b1_some h
    refine r_callSi (rest := []) (by omega) (mX12_in hx22) cb_X12_in ml_X12_145 sm_X12_in rfl rfl (Nat.le_of_ble_eq_true rfl) dX12_burl_18 ?_
    refine r_if_ne 26 dX12_burl_21 (by decide) (fun c34 => ?_) (fun c34 => ?_)
    · rw [if_neg c34] at h
      refine r_aload_n 0 dX12_burl_26 rfl rfl ?_
      refine r_iload_n 1 dX12_burl_27 rfl rfl ?_
      obtain ⟨S23, hS23, h⟩ := b1_some h
      refine r_setI (k := 0) (j := 0) sM_0 rfl pf_X12_7 hS23 dX12_burl_28 ?_
      refine r_aload_n 0 dX12_burl_31 rfl rfl ?_
      refine r_iload_n 2 dX12_burl_32 rfl rfl ?_
      obtain ⟨S24, hS24, h⟩ := b1_some h
      refine r_setI (k := 0) (j := 1) sM_0 rfl pf_X12_13 hS24 dX12_burl_33 ?_
      refine r_aload_n 0 dX12_burl_36 rfl rfl ?_
      refine r_iconst (v := 0) dX12_burl_37 rfl ?_
      obtain ⟨S25, hS25, h⟩ := b1_some h
      refine r_setI (k := 0) (j := 4) sM_0 rfl pf_X12_158 hS25 dX12_burl_38 ?_
      refine r_aload_n 0 dX12_burl_41 rfl rfl ?_
      refine r_iconst (v := 0) dX12_burl_42 rfl ?_
      obtain ⟨S26, hS26, h⟩ := b1_some h
      refine r_setI (k := 0) (j := 6) sM_0 rfl pf_X12_153 hS26 dX12_burl_43 ?_
      refine r_iconst (v := 0) dX12_burl_46 rfl ?_
      refine r_istore_n (i := 3) [(0, .ref (ad_ G 0)), (1, .int v1), (2, .int v2), (3, .int 0)] [1, 2, 3, 0] dX12_burl_47 rfl (by decide) rfl ?_
      refine r_sub [(0, .ref (ad_ G 0)), (3, .int 0)] [0, 3] rfl ?_
      have key : ∀ ex, lp (fun w27 : Int32 × St => bX12_burl_48  w27.1 w27.2) 5000 (0, S26) = some ex → (fun u33 : St => Rn G shM 1 yX12_burl cX12_burl 4 (some .int) 74 [] [] u33 post) ex → Rn G shM 1 yX12_burl cX12_burl 4 (some .int) 48 [(0, .ref (ad_ G 0)), (3, .int 0)] [] S26 post := by
        intro ex hl hx
        refine lp_rule (body := (fun w27 : Int32 × St => bX12_burl_48  w27.1 w27.2)) (R := (fun w27 : Int32 × St => Rn G shM 1 yX12_burl cX12_burl 4 (some .int) 48 [(0, .ref (ad_ G 0)), (3, .int w27.1)] [] w27.2 post)) (X := (fun u33 : St => Rn G shM 1 yX12_burl cX12_burl 4 (some .int) 74 [] [] u33 post)) ?_ 5000 (0, S26) ex hl hx
        intro w27 oo h hB hX
        obtain ⟨v28, S29⟩ := w27
        replace h : bX12_burl_48  v28 S29 = some oo := h
        unfold bX12_burl_48 at h
        show Rn G shM 1 yX12_burl cX12_burl 4 (some .int) 48 [(0, .ref (ad_ G 0)), (3, .int v28)] [] S29 post
        refine r_iload_n 1 dX12_burl_48 rfl rfl ?_
        refine r_bipush (v := 64) dX12_burl_49 rfl ?_
        refine r_icmp_ge 74 dX12_burl_51 (by decide) (fun c32 => ?_) (fun c32 => ?_)
        · rw [if_pos c32] at h
          refine r_sub [] [] rfl ?_
          obtain rfl := Option.some.inj h
          exact hX S29 rfl
        · rw [if_neg c32] at h
          refine r_aload_n 0 dX12_burl_54 rfl rfl ?_
          refine r_getC (k := 0) (j := 2) (r := 1) sM_0 rfl fl_X12_16 dX12_burl_55 ?_
          refine r_iload_n 1 dX12_burl_58 rfl rfl ?_
          refine r_iconst (v := 0) dX12_burl_59 rfl ?_
          obtain ⟨S30, hS30, h⟩ := b1_some h
          refine r_zastore sM_1 hS30 dX12_burl_60 ?_
          refine r_aload_n 0 dX12_burl_61 rfl rfl ?_
          refine r_getC (k := 0) (j := 3) (r := 2) sM_0 rfl fl_X12_20 dX12_burl_62 ?_
          refine r_iload_n 1 dX12_burl_65 rfl rfl ?_
          refine r_iconst (v := 0) dX12_burl_66 rfl ?_
          obtain ⟨S31, hS31, h⟩ := b1_some h
          refine r_iastore sM_2 hS31 dX12_burl_67 ?_
          refine r_iinc (v := v28 + 1) [(0, .ref (ad_ G 0)), (3, .int (v28 + 1))] 1 [1, 0] dX12_burl_68 rfl rfl (by decide) rfl ?_
          refine r_goto 48 dX12_burl_71 (by decide) ?_
          obtain rfl := Option.some.inj h
          exact hB (v28 + 1, S31) rfl
      obtain ⟨u33, hu33, h⟩ := b1_some h
      refine key u33 hu33 ?_
      show Rn G shM 1 yX12_burl cX12_burl 4 (some .int) 74 [] [] u33 post
      refine r_iconst (v := 1) dX12_burl_74 rfl ?_
      obtain rfl := Option.some.inj h
      exact r_ireturn rfl dX12_burl_75 (hp)
    · rw [if_pos c34] at h
      refine r_iconst (v := (-1)) dX12_burl_24 rfl ?_
      obtain rfl := Option.some.inj h
      exact r_ireturn rfl dX12_burl_25 (hp)
theorem mX12_burl {G : Gx} {S : St} {v1 : Int32} {v2 : Int32} {o : (Int32 × St)}  (h : fX12_burl S v1 v2 = some o) : MR_ G shM 1 yX12_burl cX12_burl 4 (some .int) [.ref (ad_ G 0), .int v1, .int v2] S (PI_ o.1 o.2) := MR_of cb_X12_burl (Nat.le_of_ble_eq_true rfl) [(0, .ref (ad_ G 0)), (1, .int v1), (2, .int v2)] rfl (tX12_burl  h ⟨rfl, rfl⟩)
set_option maxRecDepth 100000 in
set_option maxHeartbeats 4000000 in
theorem tX12_crack {G : Gx} {post : Option Value → St → Prop} {S : St} {v1 : Int32} {v2 : Int32} {v3 : Int32} {o : (Int32 × St)}  (h : fX12_crack S v1 v2 v3 = some o) (hp : post (some (.int o.1)) o.2) : Rn G shM 2 yX12_crack cX12_crack 5 (some .int) 0 [(0, .ref (ad_ G 0)), (1, .int v1), (2, .int v2), (3, .int v3)] [] S post := by
  unfold fX12_crack at h
  refine r_aload_n 0 dX12_crack_0 rfl rfl ?_
  refine r_iload_n 1 dX12_crack_1 rfl rfl ?_
  refine r_iload_n 2 dX12_crack_2 rfl rfl ?_
  obtain ⟨x21, hx21, h⟩ := b1_some h
  refine r_callVi (k := 0) (rest := []) (by omega) (mX12_isSquare hx21) sM_0 rfl rfl cb_X12_isSquare ml_X12_149 im_X12_isSquare se_X12_isSquare rfl rfl (Nat.le_of_ble_eq_true rfl) dX12_crack_3 ?_
  refine r_if_ne 11 dX12_crack_6 (by decide) (fun c27 => ?_) (fun c27 => ?_)
  · rw [if_neg c27] at h
    refine r_aload_n 0 dX12_crack_11 rfl rfl ?_
    obtain ⟨S22, hS22, h⟩ := b1_some h
    refine r_callVv (k := 0) (rest := []) (by omega) (mX12_keeps hS22) sM_0 rfl rfl cb_X12_keeps ml_X12_161 im_X12_keeps se_X12_keeps rfl rfl (Nat.le_of_ble_eq_true rfl) dX12_crack_12 ?_
    refine r_aload_n 0 dX12_crack_15 rfl rfl ?_
    refine r_getC (k := 0) (j := 2) (r := 1) sM_0 rfl fl_X12_16 dX12_crack_16 ?_
    refine r_bipush (v := 8) dX12_crack_19 rfl ?_
    refine r_iload_n 2 dX12_crack_21 rfl rfl ?_
    refine r_imul dX12_crack_22 ?_
    refine r_iload_n 1 dX12_crack_23 rfl rfl ?_
    refine r_iadd dX12_crack_24 ?_
    obtain ⟨x23, hx23, h⟩ := b1_some h
    refine r_zaload sM_1 hx23 dX12_crack_25 ?_
    obtain ⟨w24, hw24, h⟩ := b1_some h
    have hJ : Rn G shM 2 yX12_crack cX12_crack 5 (some .int) 34 [(0, .ref (ad_ G 0)), (1, .int v1), (2, .int v2), (3, .int v3)] [.int w24] S22 post := by
      refine r_istore (i := 4) [(0, .ref (ad_ G 0)), (1, .int v1), (2, .int v2), (3, .int v3), (4, .int w24)] [1, 2, 3, 4, 0] dX12_crack_34 (by decide) rfl ?_
      refine r_aload_n 0 dX12_crack_36 rfl rfl ?_
      refine r_getC (k := 0) (j := 2) (r := 1) sM_0 rfl fl_X12_16 dX12_crack_37 ?_
      refine r_bipush (v := 8) dX12_crack_40 rfl ?_
      refine r_iload_n 2 dX12_crack_42 rfl rfl ?_
      refine r_imul dX12_crack_43 ?_
      refine r_iload_n 1 dX12_crack_44 rfl rfl ?_
      refine r_iadd dX12_crack_45 ?_
      refine r_iload_n 3 dX12_crack_46 rfl rfl ?_
      obtain ⟨S25, hS25, h⟩ := b1_some h
      refine r_zastore sM_1 hS25 dX12_crack_47 ?_
      refine r_iload 4 dX12_crack_48 rfl ?_
      obtain rfl := Option.some.inj h
      exact r_ireturn rfl dX12_crack_50 (hp)
    clear h
    replace h := hw24
    refine r_if_eq 33 dX12_crack_26 (by decide) (fun c26 => ?_) (fun c26 => ?_)
    · rw [if_pos c26] at h
      refine r_iconst (v := 0) dX12_crack_33 rfl ?_
      obtain rfl := Option.some.inj h
      exact hJ
    · rw [if_neg c26] at h
      refine r_iconst (v := 1) dX12_crack_29 rfl ?_
      refine r_goto 34 dX12_crack_30 (by decide) ?_
      obtain rfl := Option.some.inj h
      exact hJ
  · rw [if_pos c27] at h
    refine r_iconst (v := (-1)) dX12_crack_9 rfl ?_
    obtain rfl := Option.some.inj h
    exact r_ireturn rfl dX12_crack_10 (hp)
theorem mX12_crack {G : Gx} {S : St} {v1 : Int32} {v2 : Int32} {v3 : Int32} {o : (Int32 × St)}  (h : fX12_crack S v1 v2 v3 = some o) : MR_ G shM 2 yX12_crack cX12_crack 5 (some .int) [.ref (ad_ G 0), .int v1, .int v2, .int v3] S (PI_ o.1 o.2) := MR_of cb_X12_crack (Nat.le_of_ble_eq_true rfl) [(0, .ref (ad_ G 0)), (1, .int v1), (2, .int v2), (3, .int v3)] rfl (tX12_crack  h ⟨rfl, rfl⟩)
set_option maxRecDepth 100000 in
set_option maxHeartbeats 4000000 in
theorem tX12_grain {G : Gx} {post : Option Value → St → Prop} {S : St} {v1 : Int32} {v2 : Int32} {v3 : Int32} {o : (Int32 × St)}  (h : fX12_grain S v1 v2 v3 = some o) (hp : post (some (.int o.1)) o.2) : Rn G shM 2 yX12_grain cX12_grain 5 (some .int) 0 [(0, .ref (ad_ G 0)), (1, .int v1), (2, .int v2), (3, .int v3)] [] S post := by
  unfold fX12_grain at h
  refine r_aload_n 0 dX12_grain_0 rfl rfl ?_
  refine r_iload_n 1 dX12_grain_1 rfl rfl ?_
  refine r_iload_n 2 dX12_grain_2 rfl rfl ?_
  obtain ⟨x21, hx21, h⟩ := b1_some h
  refine r_callVi (k := 0) (rest := []) (by omega) (mX12_isSquare hx21) sM_0 rfl rfl cb_X12_isSquare ml_X12_149 im_X12_isSquare se_X12_isSquare rfl rfl (Nat.le_of_ble_eq_true rfl) dX12_grain_3 ?_
  refine r_if_eq 21 dX12_grain_6 (by decide) (fun c27 => ?_) (fun c27 => ?_)
  · rw [if_pos c27] at h
    refine r_iconst (v := (-1)) dX12_grain_21 rfl ?_
    obtain rfl := Option.some.inj h
    exact r_ireturn rfl dX12_grain_22 (hp)
  · rw [if_neg c27] at h
    refine r_iload_n 3 dX12_grain_9 rfl rfl ?_
    refine r_i2l dX12_grain_10 ?_
    refine r_lconst (v := 0) dX12_grain_11 rfl ?_
    refine r_ldc2 kl_X12_164 dX12_grain_12 ?_
    obtain ⟨x22, hx22, h⟩ := b1_some h
    refine r_callSi (rest := []) (by omega) (mX12_in hx22) cb_X12_in ml_X12_145 sm_X12_in rfl rfl (Nat.le_of_ble_eq_true rfl) dX12_grain_15 ?_
    refine r_if_ne 23 dX12_grain_18 (by decide) (fun c26 => ?_) (fun c26 => ?_)
    · rw [if_neg c26] at h
      refine r_aload_n 0 dX12_grain_23 rfl rfl ?_
      obtain ⟨S23, hS23, h⟩ := b1_some h
      refine r_callVv (k := 0) (rest := []) (by omega) (mX12_keeps hS23) sM_0 rfl rfl cb_X12_keeps ml_X12_161 im_X12_keeps se_X12_keeps rfl rfl (Nat.le_of_ble_eq_true rfl) dX12_grain_24 ?_
      refine r_aload_n 0 dX12_grain_27 rfl rfl ?_
      refine r_getC (k := 0) (j := 3) (r := 2) sM_0 rfl fl_X12_20 dX12_grain_28 ?_
      refine r_bipush (v := 8) dX12_grain_31 rfl ?_
      refine r_iload_n 2 dX12_grain_33 rfl rfl ?_
      refine r_imul dX12_grain_34 ?_
      refine r_iload_n 1 dX12_grain_35 rfl rfl ?_
      refine r_iadd dX12_grain_36 ?_
      obtain ⟨x24, hx24, h⟩ := b1_some h
      refine r_iaload sM_2 hx24 dX12_grain_37 ?_
      refine r_istore (i := 4) [(0, .ref (ad_ G 0)), (1, .int v1), (2, .int v2), (3, .int v3), (4, .int x24)] [1, 2, 3, 4, 0] dX12_grain_38 (by decide) rfl ?_
      refine r_aload_n 0 dX12_grain_40 rfl rfl ?_
      refine r_getC (k := 0) (j := 3) (r := 2) sM_0 rfl fl_X12_20 dX12_grain_41 ?_
      refine r_bipush (v := 8) dX12_grain_44 rfl ?_
      refine r_iload_n 2 dX12_grain_46 rfl rfl ?_
      refine r_imul dX12_grain_47 ?_
      refine r_iload_n 1 dX12_grain_48 rfl rfl ?_
      refine r_iadd dX12_grain_49 ?_
      refine r_iload_n 3 dX12_grain_50 rfl rfl ?_
      obtain ⟨S25, hS25, h⟩ := b1_some h
      refine r_iastore sM_2 hS25 dX12_grain_51 ?_
      refine r_iload 4 dX12_grain_52 rfl ?_
      obtain rfl := Option.some.inj h
      exact r_ireturn rfl dX12_grain_54 (hp)
    · rw [if_pos c26] at h
      refine r_iconst (v := (-1)) dX12_grain_21 rfl ?_
      obtain rfl := Option.some.inj h
      exact r_ireturn rfl dX12_grain_22 (hp)
theorem mX12_grain {G : Gx} {S : St} {v1 : Int32} {v2 : Int32} {v3 : Int32} {o : (Int32 × St)}  (h : fX12_grain S v1 v2 v3 = some o) : MR_ G shM 2 yX12_grain cX12_grain 5 (some .int) [.ref (ad_ G 0), .int v1, .int v2, .int v3] S (PI_ o.1 o.2) := MR_of cb_X12_grain (Nat.le_of_ble_eq_true rfl) [(0, .ref (ad_ G 0)), (1, .int v1), (2, .int v2), (3, .int v3)] rfl (tX12_grain  h ⟨rfl, rfl⟩)
set_option maxRecDepth 100000 in
set_option maxHeartbeats 4000000 in
theorem tX12_undo {G : Gx} {post : Option Value → St → Prop} {S : St} {o : (Int32 × St)}  (h : fX12_undo S = some o) (hp : post (some (.int o.1)) o.2) : Rn G shM 0 yX12_undo cX12_undo 2 (some .int) 0 [(0, .ref (ad_ G 0))] [] S post := by
  unfold fX12_undo at h
  refine r_aload_n 0 dX12_undo_0 rfl rfl ?_
  refine r_getI (k := 0) (j := 6) sM_0 rfl fl_X12_153 dX12_undo_1 ?_
  refine r_if_ne 10 dX12_undo_4 (by decide) (fun c31 => ?_) (fun c31 => ?_)
  · rw [if_neg c31] at h
    refine r_aload_n 0 dX12_undo_10 rfl rfl ?_
    refine r_dup dX12_undo_11 rfl ?_
    refine r_getI (k := 0) (j := 6) sM_0 rfl fl_X12_153 dX12_undo_12 ?_
    refine r_iconst (v := 1) dX12_undo_15 rfl ?_
    refine r_isub dX12_undo_16 ?_
    obtain ⟨S21, hS21, h⟩ := b1_some h
    refine r_setI (k := 0) (j := 6) sM_0 rfl pf_X12_153 hS21 dX12_undo_17 ?_
    refine r_iconst (v := 0) dX12_undo_20 rfl ?_
    refine r_istore_n (i := 1) [(0, .ref (ad_ G 0)), (1, .int 0)] [1, 0] dX12_undo_21 rfl (by decide) rfl ?_
    have key : ∀ ex, lp (fun w22 : Int32 × St => bX12_undo_22  w22.1 w22.2) 5000 (0, S21) = some ex → (fun u30 : St => Rn G shM 0 yX12_undo cX12_undo 2 (some .int) 74 [(0, .ref (ad_ G 0))] [] u30 post) ex → Rn G shM 0 yX12_undo cX12_undo 2 (some .int) 22 [(0, .ref (ad_ G 0)), (1, .int 0)] [] S21 post := by
      intro ex hl hx
      refine lp_rule (body := (fun w22 : Int32 × St => bX12_undo_22  w22.1 w22.2)) (R := (fun w22 : Int32 × St => Rn G shM 0 yX12_undo cX12_undo 2 (some .int) 22 [(0, .ref (ad_ G 0)), (1, .int w22.1)] [] w22.2 post)) (X := (fun u30 : St => Rn G shM 0 yX12_undo cX12_undo 2 (some .int) 74 [(0, .ref (ad_ G 0))] [] u30 post)) ?_ 5000 (0, S21) ex hl hx
      intro w22 oo h hB hX
      obtain ⟨v23, S24⟩ := w22
      replace h : bX12_undo_22  v23 S24 = some oo := h
      unfold bX12_undo_22 at h
      show Rn G shM 0 yX12_undo cX12_undo 2 (some .int) 22 [(0, .ref (ad_ G 0)), (1, .int v23)] [] S24 post
      refine r_iload_n 1 dX12_undo_22 rfl rfl ?_
      refine r_bipush (v := 64) dX12_undo_23 rfl ?_
      refine r_icmp_ge 74 dX12_undo_25 (by decide) (fun c29 => ?_) (fun c29 => ?_)
      · rw [if_pos c29] at h
        refine r_sub [(0, .ref (ad_ G 0))] [0] rfl ?_
        obtain rfl := Option.some.inj h
        exact hX S24 rfl
      · rw [if_neg c29] at h
        refine r_aload_n 0 dX12_undo_28 rfl rfl ?_
        refine r_getC (k := 0) (j := 2) (r := 1) sM_0 rfl fl_X12_16 dX12_undo_29 ?_
        refine r_iload_n 1 dX12_undo_32 rfl rfl ?_
        refine r_aload_n 0 dX12_undo_33 rfl rfl ?_
        refine r_getC (k := 0) (j := 7) (r := 4) sM_0 rfl fl_X12_27 dX12_undo_34 ?_
        refine r_bipush (v := 64) dX12_undo_37 rfl ?_
        refine r_aload_n 0 dX12_undo_39 rfl rfl ?_
        refine r_getI (k := 0) (j := 6) sM_0 rfl fl_X12_153 dX12_undo_40 ?_
        refine r_imul dX12_undo_43 ?_
        refine r_iload_n 1 dX12_undo_44 rfl rfl ?_
        refine r_iadd dX12_undo_45 ?_
        obtain ⟨x25, hx25, h⟩ := b1_some h
        refine r_zaload sM_4 hx25 dX12_undo_46 ?_
        obtain ⟨S26, hS26, h⟩ := b1_some h
        refine r_zastore sM_1 hS26 dX12_undo_47 ?_
        refine r_aload_n 0 dX12_undo_48 rfl rfl ?_
        refine r_getC (k := 0) (j := 3) (r := 2) sM_0 rfl fl_X12_20 dX12_undo_49 ?_
        refine r_iload_n 1 dX12_undo_52 rfl rfl ?_
        refine r_aload_n 0 dX12_undo_53 rfl rfl ?_
        refine r_getC (k := 0) (j := 8) (r := 5) sM_0 rfl fl_X12_30 dX12_undo_54 ?_
        refine r_bipush (v := 64) dX12_undo_57 rfl ?_
        refine r_aload_n 0 dX12_undo_59 rfl rfl ?_
        refine r_getI (k := 0) (j := 6) sM_0 rfl fl_X12_153 dX12_undo_60 ?_
        refine r_imul dX12_undo_63 ?_
        refine r_iload_n 1 dX12_undo_64 rfl rfl ?_
        refine r_iadd dX12_undo_65 ?_
        obtain ⟨x27, hx27, h⟩ := b1_some h
        refine r_iaload sM_5 hx27 dX12_undo_66 ?_
        obtain ⟨S28, hS28, h⟩ := b1_some h
        refine r_iastore sM_2 hS28 dX12_undo_67 ?_
        refine r_iinc (v := v23 + 1) [(0, .ref (ad_ G 0)), (1, .int (v23 + 1))] 1 [1, 0] dX12_undo_68 rfl rfl (by decide) rfl ?_
        refine r_goto 22 dX12_undo_71 (by decide) ?_
        obtain rfl := Option.some.inj h
        exact hB (v23 + 1, S28) rfl
    obtain ⟨u30, hu30, h⟩ := b1_some h
    refine key u30 hu30 ?_
    show Rn G shM 0 yX12_undo cX12_undo 2 (some .int) 74 [(0, .ref (ad_ G 0))] [] u30 post
    refine r_aload_n 0 dX12_undo_74 rfl rfl ?_
    refine r_getI (k := 0) (j := 6) sM_0 rfl fl_X12_153 dX12_undo_75 ?_
    obtain rfl := Option.some.inj h
    exact r_ireturn rfl dX12_undo_78 (hp)
  · rw [if_pos c31] at h
    refine r_bipush (v := (-4)) dX12_undo_7 rfl ?_
    obtain rfl := Option.some.inj h
    exact r_ireturn rfl dX12_undo_9 (hp)
theorem mX12_undo {G : Gx} {S : St} {o : (Int32 × St)}  (h : fX12_undo S = some o) : MR_ G shM 0 yX12_undo cX12_undo 2 (some .int) [.ref (ad_ G 0)] S (PI_ o.1 o.2) := MR_of cb_X12_undo (Nat.le_of_ble_eq_true rfl) [(0, .ref (ad_ G 0))] rfl (tX12_undo  h ⟨rfl, rfl⟩)
set_option maxRecDepth 100000 in
set_option maxHeartbeats 4000000 in
theorem tX12_isShape {G : Gx} {post : Option Value → St → Prop} {S : St} {v1 : Int32} {o : Int32}  (h : fX12_isShape S v1 = some o) (hp : post (some (.int o)) S) : Rn G shM 1 yX12_isShape cX12_isShape 2 (some .boolean) 0 [(0, .ref (ad_ G 0)), (1, .int v1)] [] S post := by
  unfold fX12_isShape at h
  refine r_iload_n 1 dX12_isShape_0 rfl rfl ?_
  refine r_i2l dX12_isShape_1 ?_
  refine r_lconst (v := 0) dX12_isShape_2 rfl ?_
  refine r_aload_n 0 dX12_isShape_3 rfl rfl ?_
  refine r_getI (k := 0) (j := 9) sM_0 rfl fl_X12_166 dX12_isShape_4 ?_
  refine r_iconst (v := 1) dX12_isShape_7 rfl ?_
  refine r_isub dX12_isShape_8 ?_
  refine r_i2l dX12_isShape_9 ?_
  obtain ⟨x21, hx21, h⟩ := b1_some h
  refine r_callSi (rest := []) (by omega) (mX12_in hx21) cb_X12_in ml_X12_145 sm_X12_in rfl rfl (Nat.le_of_ble_eq_true rfl) dX12_isShape_10 ?_
  obtain ⟨z22, hz22, h⟩ := b1_some h
  obtain ⟨ez22, nz22⟩ := bz_some hz22
  rw [ez22] at h
  obtain rfl := Option.some.inj h
  exact r_zreturn rfl nz22 dX12_isShape_13 (hp)
theorem mX12_isShape {G : Gx} {S : St} {v1 : Int32} {o : Int32}  (h : fX12_isShape S v1 = some o) : MR_ G shM 1 yX12_isShape cX12_isShape 2 (some .boolean) [.ref (ad_ G 0), .int v1] S (PI_ o S) := MR_of cb_X12_isShape (Nat.le_of_ble_eq_true rfl) [(0, .ref (ad_ G 0)), (1, .int v1)] rfl (tX12_isShape  h ⟨rfl, rfl⟩)
set_option maxRecDepth 100000 in
set_option maxHeartbeats 4000000 in
theorem tX12_shape {G : Gx} {post : Option Value → St → Prop} {S : St} {v1 : Int32} {v2 : Int32} {v3 : Int32} {v4 : Int32} {v5 : Int32} {o : (Int32 × St)}  (h : fX12_shape S v1 v2 v3 v4 v5 = some o) (hp : post (some (.int o.1)) o.2) : Rn G shM 1 yX12_shape cX12_shape 6 (some .int) 0 [(0, .ref (ad_ G 0)), (1, .int v1), (2, .int v2), (3, .int v3), (4, .int v4), (5, .int v5)] [] S post := by
  unfold fX12_shape at h
  refine r_iload_n 1 dX12_shape_0 rfl rfl ?_
  refine r_i2l dX12_shape_1 ?_
  refine r_lconst (v := 1) dX12_shape_2 rfl ?_
  refine r_ldc2 kl_X12_156 dX12_shape_3 ?_
  obtain ⟨x21, hx21, h⟩ := b1_some h
  refine r_callSi (rest := []) (by omega) (mX12_in hx21) cb_X12_in ml_X12_145 sm_X12_in rfl rfl (Nat.le_of_ble_eq_true rfl) dX12_shape_6 ?_
  refine r_if_eq 49 dX12_shape_9 (by decide) (fun c35 => ?_) (fun c35 => ?_)
  · rw [if_pos c35] at h
    refine r_iconst (v := (-1)) dX12_shape_49 rfl ?_
    obtain rfl := Option.some.inj h
    exact r_ireturn rfl dX12_shape_50 (hp)
  · rw [if_neg c35] at h
    refine r_iload_n 2 dX12_shape_12 rfl rfl ?_
    refine r_i2l dX12_shape_13 ?_
    refine r_lconst (v := 1) dX12_shape_14 rfl ?_
    refine r_ldc2 kl_X12_156 dX12_shape_15 ?_
    obtain ⟨x22, hx22, h⟩ := b1_some h
    refine r_callSi (rest := []) (by omega) (mX12_in hx22) cb_X12_in ml_X12_145 sm_X12_in rfl rfl (Nat.le_of_ble_eq_true rfl) dX12_shape_18 ?_
    refine r_if_eq 49 dX12_shape_21 (by decide) (fun c34 => ?_) (fun c34 => ?_)
    · rw [if_pos c34] at h
      refine r_iconst (v := (-1)) dX12_shape_49 rfl ?_
      obtain rfl := Option.some.inj h
      exact r_ireturn rfl dX12_shape_50 (hp)
    · rw [if_neg c34] at h
      refine r_iload_n 3 dX12_shape_24 rfl rfl ?_
      refine r_i2l dX12_shape_25 ?_
      refine r_lconst (v := 1) dX12_shape_26 rfl ?_
      refine r_ldc2 kl_X12_169 dX12_shape_27 ?_
      obtain ⟨x23, hx23, h⟩ := b1_some h
      refine r_callSi (rest := []) (by omega) (mX12_in hx23) cb_X12_in ml_X12_145 sm_X12_in rfl rfl (Nat.le_of_ble_eq_true rfl) dX12_shape_30 ?_
      refine r_if_eq 49 dX12_shape_33 (by decide) (fun c33 => ?_) (fun c33 => ?_)
      · rw [if_pos c33] at h
        refine r_iconst (v := (-1)) dX12_shape_49 rfl ?_
        obtain rfl := Option.some.inj h
        exact r_ireturn rfl dX12_shape_50 (hp)
      · rw [if_neg c33] at h
        refine r_iload 4 dX12_shape_36 rfl ?_
        refine r_i2l dX12_shape_38 ?_
        refine r_lconst (v := 0) dX12_shape_39 rfl ?_
        refine r_ldc2 kl_X12_164 dX12_shape_40 ?_
        obtain ⟨x24, hx24, h⟩ := b1_some h
        refine r_callSi (rest := []) (by omega) (mX12_in hx24) cb_X12_in ml_X12_145 sm_X12_in rfl rfl (Nat.le_of_ble_eq_true rfl) dX12_shape_43 ?_
        refine r_if_ne 51 dX12_shape_46 (by decide) (fun c32 => ?_) (fun c32 => ?_)
        · rw [if_neg c32] at h
          refine r_aload_n 0 dX12_shape_51 rfl rfl ?_
          refine r_getI (k := 0) (j := 9) sM_0 rfl fl_X12_166 dX12_shape_52 ?_
          refine r_bipush (v := 8) dX12_shape_55 rfl ?_
          refine r_icmp_ne 63 dX12_shape_57 (by decide) (fun c31 => ?_) (fun c31 => ?_)
          · rw [if_neg c31] at h
            refine r_aload_n 0 dX12_shape_63 rfl rfl ?_
            refine r_getC (k := 0) (j := 10) (r := 6) sM_0 rfl fl_X12_33 dX12_shape_64 ?_
            refine r_aload_n 0 dX12_shape_67 rfl rfl ?_
            refine r_getI (k := 0) (j := 9) sM_0 rfl fl_X12_166 dX12_shape_68 ?_
            refine r_iload_n 1 dX12_shape_71 rfl rfl ?_
            obtain ⟨S25, hS25, h⟩ := b1_some h
            refine r_iastore sM_6 hS25 dX12_shape_72 ?_
            refine r_aload_n 0 dX12_shape_73 rfl rfl ?_
            refine r_getC (k := 0) (j := 11) (r := 7) sM_0 rfl fl_X12_36 dX12_shape_74 ?_
            refine r_aload_n 0 dX12_shape_77 rfl rfl ?_
            refine r_getI (k := 0) (j := 9) sM_0 rfl fl_X12_166 dX12_shape_78 ?_
            refine r_iload_n 2 dX12_shape_81 rfl rfl ?_
            obtain ⟨S26, hS26, h⟩ := b1_some h
            refine r_iastore sM_7 hS26 dX12_shape_82 ?_
            refine r_aload_n 0 dX12_shape_83 rfl rfl ?_
            refine r_getC (k := 0) (j := 12) (r := 8) sM_0 rfl fl_X12_39 dX12_shape_84 ?_
            refine r_aload_n 0 dX12_shape_87 rfl rfl ?_
            refine r_getI (k := 0) (j := 9) sM_0 rfl fl_X12_166 dX12_shape_88 ?_
            refine r_iload_n 3 dX12_shape_91 rfl rfl ?_
            obtain ⟨S27, hS27, h⟩ := b1_some h
            refine r_iastore sM_8 hS27 dX12_shape_92 ?_
            refine r_aload_n 0 dX12_shape_93 rfl rfl ?_
            refine r_getC (k := 0) (j := 13) (r := 9) sM_0 rfl fl_X12_42 dX12_shape_94 ?_
            refine r_aload_n 0 dX12_shape_97 rfl rfl ?_
            refine r_getI (k := 0) (j := 9) sM_0 rfl fl_X12_166 dX12_shape_98 ?_
            refine r_iload 4 dX12_shape_101 rfl ?_
            obtain ⟨S28, hS28, h⟩ := b1_some h
            refine r_iastore sM_9 hS28 dX12_shape_103 ?_
            refine r_aload_n 0 dX12_shape_104 rfl rfl ?_
            refine r_getC (k := 0) (j := 14) (r := 10) sM_0 rfl fl_X12_45 dX12_shape_105 ?_
            refine r_aload_n 0 dX12_shape_108 rfl rfl ?_
            refine r_getI (k := 0) (j := 9) sM_0 rfl fl_X12_166 dX12_shape_109 ?_
            refine r_iload 5 dX12_shape_112 rfl ?_
            obtain ⟨S29, hS29, h⟩ := b1_some h
            refine r_zastore sM_10 hS29 dX12_shape_114 ?_
            refine r_aload_n 0 dX12_shape_115 rfl rfl ?_
            refine r_dup dX12_shape_116 rfl ?_
            refine r_getI (k := 0) (j := 9) sM_0 rfl fl_X12_166 dX12_shape_117 ?_
            refine r_iconst (v := 1) dX12_shape_120 rfl ?_
            refine r_iadd dX12_shape_121 ?_
            obtain ⟨S30, hS30, h⟩ := b1_some h
            refine r_setI (k := 0) (j := 9) sM_0 rfl pf_X12_166 hS30 dX12_shape_122 ?_
            refine r_aload_n 0 dX12_shape_125 rfl rfl ?_
            refine r_getI (k := 0) (j := 9) sM_0 rfl fl_X12_166 dX12_shape_126 ?_
            refine r_iconst (v := 1) dX12_shape_129 rfl ?_
            refine r_isub dX12_shape_130 ?_
            obtain rfl := Option.some.inj h
            exact r_ireturn rfl dX12_shape_131 (hp)
          · rw [if_pos c31] at h
            refine r_bipush (v := (-3)) dX12_shape_60 rfl ?_
            obtain rfl := Option.some.inj h
            exact r_ireturn rfl dX12_shape_62 (hp)
        · rw [if_pos c32] at h
          refine r_iconst (v := (-1)) dX12_shape_49 rfl ?_
          obtain rfl := Option.some.inj h
          exact r_ireturn rfl dX12_shape_50 (hp)
theorem mX12_shape {G : Gx} {S : St} {v1 : Int32} {v2 : Int32} {v3 : Int32} {v4 : Int32} {v5 : Int32} {o : (Int32 × St)}  (h : fX12_shape S v1 v2 v3 v4 v5 = some o) : MR_ G shM 1 yX12_shape cX12_shape 6 (some .int) [.ref (ad_ G 0), .int v1, .int v2, .int v3, .int v4, .int v5] S (PI_ o.1 o.2) := MR_of cb_X12_shape (Nat.le_of_ble_eq_true rfl) [(0, .ref (ad_ G 0)), (1, .int v1), (2, .int v2), (3, .int v3), (4, .int v4), (5, .int v5)] rfl (tX12_shape  h ⟨rfl, rfl⟩)
set_option maxRecDepth 100000 in
set_option maxHeartbeats 4000000 in
theorem tX12_drop {G : Gx} {post : Option Value → St → Prop} {S : St} {o : (Int32 × St)}  (h : fX12_drop S = some o) (hp : post (some (.int o.1)) o.2) : Rn G shM 0 yX12_drop cX12_drop 2 (some .int) 0 [(0, .ref (ad_ G 0))] [] S post := by
  unfold fX12_drop at h
  refine r_aload_n 0 dX12_drop_0 rfl rfl ?_
  refine r_getI (k := 0) (j := 9) sM_0 rfl fl_X12_166 dX12_drop_1 ?_
  refine r_if_ne 10 dX12_drop_4 (by decide) (fun c28 => ?_) (fun c28 => ?_)
  · rw [if_neg c28] at h
    refine r_iconst (v := 0) dX12_drop_10 rfl ?_
    refine r_istore_n (i := 1) [(0, .ref (ad_ G 0)), (1, .int 0)] [1, 0] dX12_drop_11 rfl (by decide) rfl ?_
    have key : ∀ ex, lp (fun w21 : Int32 => bX12_drop_12 S w21) 5000 0 = some ex → (fun ex : (Unit) ⊕ (Int32 × St) => match ex with | .inl u26 => Rn G shM 0 yX12_drop cX12_drop 2 (some .int) 44 [(0, .ref (ad_ G 0))] [] S post | .inr rr => post (some (.int rr.1)) rr.2) ex → Rn G shM 0 yX12_drop cX12_drop 2 (some .int) 12 [(0, .ref (ad_ G 0)), (1, .int 0)] [] S post := by
      intro ex hl hx
      refine lp_rule (body := (fun w21 : Int32 => bX12_drop_12 S w21)) (R := (fun w21 : Int32 => Rn G shM 0 yX12_drop cX12_drop 2 (some .int) 12 [(0, .ref (ad_ G 0)), (1, .int w21)] [] S post)) (X := (fun ex : (Unit) ⊕ (Int32 × St) => match ex with | .inl u26 => Rn G shM 0 yX12_drop cX12_drop 2 (some .int) 44 [(0, .ref (ad_ G 0))] [] S post | .inr rr => post (some (.int rr.1)) rr.2)) ?_ 5000 0 ex hl hx
      intro w21 oo h hB hX
      obtain ⟨v22, rfl⟩ : ∃ z, z = w21 := ⟨_, rfl⟩
      replace h : bX12_drop_12 S v22 = some oo := h
      unfold bX12_drop_12 at h
      show Rn G shM 0 yX12_drop cX12_drop 2 (some .int) 12 [(0, .ref (ad_ G 0)), (1, .int v22)] [] S post
      refine r_iload_n 1 dX12_drop_12 rfl rfl ?_
      refine r_aload_n 0 dX12_drop_13 rfl rfl ?_
      refine r_getI (k := 0) (j := 22) sM_0 rfl fl_X12_171 dX12_drop_14 ?_
      refine r_icmp_ge 44 dX12_drop_17 (by decide) (fun c25 => ?_) (fun c25 => ?_)
      · rw [if_pos c25] at h
        refine r_sub [(0, .ref (ad_ G 0))] [0] rfl ?_
        obtain rfl := Option.some.inj h
        exact hX (.inl ()) rfl
      · rw [if_neg c25] at h
        refine r_aload_n 0 dX12_drop_20 rfl rfl ?_
        refine r_getC (k := 0) (j := 23) (r := 17) sM_0 rfl fl_X12_66 dX12_drop_21 ?_
        refine r_iload_n 1 dX12_drop_24 rfl rfl ?_
        obtain ⟨x23, hx23, h⟩ := b1_some h
        refine r_iaload sM_17 hx23 dX12_drop_25 ?_
        refine r_aload_n 0 dX12_drop_26 rfl rfl ?_
        refine r_getI (k := 0) (j := 9) sM_0 rfl fl_X12_166 dX12_drop_27 ?_
        refine r_iconst (v := 1) dX12_drop_30 rfl ?_
        refine r_isub dX12_drop_31 ?_
        refine r_icmp_ne 38 dX12_drop_32 (by decide) (fun c24 => ?_) (fun c24 => ?_)
        · rw [if_neg c24] at h
          refine r_iinc (v := v22 + 1) [(0, .ref (ad_ G 0)), (1, .int (v22 + 1))] 1 [1, 0] dX12_drop_38 rfl rfl (by decide) rfl ?_
          refine r_goto 12 dX12_drop_41 (by decide) ?_
          obtain rfl := Option.some.inj h
          exact hB (v22 + 1) rfl
        · rw [if_pos c24] at h
          refine r_bipush (v := (-2)) dX12_drop_35 rfl ?_
          obtain rfl := Option.some.inj h
          exact r_ireturn rfl dX12_drop_37 (hX (.inr ((-2), S)) rfl)
    rcases bs_some h with ⟨u26, hu26, h⟩ | ⟨rr, hu26, h⟩
    · refine key _ hu26 ?_
      show Rn G shM 0 yX12_drop cX12_drop 2 (some .int) 44 [(0, .ref (ad_ G 0))] [] S post
      refine r_aload_n 0 dX12_drop_44 rfl rfl ?_
      refine r_dup dX12_drop_45 rfl ?_
      refine r_getI (k := 0) (j := 9) sM_0 rfl fl_X12_166 dX12_drop_46 ?_
      refine r_iconst (v := 1) dX12_drop_49 rfl ?_
      refine r_isub dX12_drop_50 ?_
      obtain ⟨S27, hS27, h⟩ := b1_some h
      refine r_setI (k := 0) (j := 9) sM_0 rfl pf_X12_166 hS27 dX12_drop_51 ?_
      refine r_aload_n 0 dX12_drop_54 rfl rfl ?_
      refine r_getI (k := 0) (j := 9) sM_0 rfl fl_X12_166 dX12_drop_55 ?_
      obtain rfl := Option.some.inj h
      exact r_ireturn rfl dX12_drop_58 (hp)
    · refine key _ hu26 ?_
      show post (some (.int rr.1)) rr.2
      obtain rfl := Option.some.inj h
      exact hp
  · rw [if_pos c28] at h
    refine r_bipush (v := (-4)) dX12_drop_7 rfl ?_
    obtain rfl := Option.some.inj h
    exact r_ireturn rfl dX12_drop_9 (hp)
theorem mX12_drop {G : Gx} {S : St} {o : (Int32 × St)}  (h : fX12_drop S = some o) : MR_ G shM 0 yX12_drop cX12_drop 2 (some .int) [.ref (ad_ G 0)] S (PI_ o.1 o.2) := MR_of cb_X12_drop (Nat.le_of_ble_eq_true rfl) [(0, .ref (ad_ G 0))] rfl (tX12_drop  h ⟨rfl, rfl⟩)
set_option maxRecDepth 100000 in
set_option maxHeartbeats 4000000 in
theorem tX12_isOfSize {G : Gx} {post : Option Value → St → Prop} {S : St} {v1 : Int32} {v2 : Int32} {v3 : Int32} {o : Int32}  (h : fX12_isOfSize S v1 v2 v3 = some o) (hp : post (some (.int o)) S) : Rn G shM 0 yX12_isOfSize cX12_isOfSize 4 (some .boolean) 0 [(0, .ref (ad_ G 0)), (1, .int v1), (2, .int v2), (3, .int v3)] [] S post := by
  unfold fX12_isOfSize at h
  refine r_aload_n 0 dX12_isOfSize_0 rfl rfl ?_
  refine r_getC (k := 0) (j := 10) (r := 6) sM_0 rfl fl_X12_33 dX12_isOfSize_1 ?_
  refine r_iload_n 1 dX12_isOfSize_4 rfl rfl ?_
  obtain ⟨x21, hx21, h⟩ := b1_some h
  refine r_iaload sM_6 hx21 dX12_isOfSize_5 ?_
  refine r_iload_n 2 dX12_isOfSize_6 rfl rfl ?_
  have key : ∀ ex, ((if x21 = v2 then b1 (rI_ S 7 8 v1) fun x29 => (if x29 = v3 then some (.inr 1) else some (.inl ())) else some (.inl ())) : Option ((Unit) ⊕ Int32)) = some ex → (∀ w22, ex = .inl w22 → Rn G shM 0 yX12_isOfSize cX12_isOfSize 4 (some .boolean) 20 [(0, .ref (ad_ G 0)), (1, .int v1), (2, .int v2), (3, .int v3)] [] S post) → (∀ r32, ex = .inr r32 → post (some (.int r32)) S) → Rn G shM 0 yX12_isOfSize cX12_isOfSize 4 (some .boolean) 7 [(0, .ref (ad_ G 0)), (1, .int v1), (2, .int v2), (3, .int v3)] [.int v2, .int x21] S post := by
    intro ex h hJ0 hR
    refine r_icmp_ne 20 dX12_isOfSize_7 (by decide) (fun c31 => ?_) (fun c31 => ?_)
    · rw [if_neg c31] at h
      obtain rfl := Option.some.inj h
      exact hJ0 _ rfl
    · rw [if_pos c31] at h
      refine r_aload_n 0 dX12_isOfSize_10 rfl rfl ?_
      refine r_getC (k := 0) (j := 11) (r := 7) sM_0 rfl fl_X12_36 dX12_isOfSize_11 ?_
      refine r_iload_n 1 dX12_isOfSize_14 rfl rfl ?_
      obtain ⟨x29, hx29, h⟩ := b1_some h
      refine r_iaload sM_7 hx29 dX12_isOfSize_15 ?_
      refine r_iload_n 3 dX12_isOfSize_16 rfl rfl ?_
      refine r_icmp_eq 49 dX12_isOfSize_17 (by decide) (fun c30 => ?_) (fun c30 => ?_)
      · rw [if_pos c30] at h
        refine r_iconst (v := 1) dX12_isOfSize_49 rfl ?_
        refine r_goto 54 dX12_isOfSize_50 (by decide) ?_
        obtain rfl := Option.some.inj h
        exact r_zreturn rfl (by decide) dX12_isOfSize_54 (hR 1 rfl)
      · rw [if_neg c30] at h
        obtain rfl := Option.some.inj h
        exact hJ0 _ rfl
  rcases bs_some h with ⟨w22, hw22, h⟩ | ⟨r32, hw22, h⟩
  · refine key _ hw22 (fun z ez => ?_) (fun z ez => by cases ez)
    cases ez
    refine r_aload_n 0 dX12_isOfSize_20 rfl rfl ?_
    refine r_getC (k := 0) (j := 14) (r := 10) sM_0 rfl fl_X12_45 dX12_isOfSize_21 ?_
    refine r_iload_n 1 dX12_isOfSize_24 rfl rfl ?_
    obtain ⟨x23, hx23, h⟩ := b1_some h
    refine r_zaload sM_10 hx23 dX12_isOfSize_25 ?_
    refine r_if_eq 53 dX12_isOfSize_26 (by decide) (fun c28 => ?_) (fun c28 => ?_)
    · rw [if_pos c28] at h
      refine r_iconst (v := 0) dX12_isOfSize_53 rfl ?_
      obtain rfl := Option.some.inj h
      exact r_zreturn rfl (by decide) dX12_isOfSize_54 (hp)
    · rw [if_neg c28] at h
      refine r_aload_n 0 dX12_isOfSize_29 rfl rfl ?_
      refine r_getC (k := 0) (j := 10) (r := 6) sM_0 rfl fl_X12_33 dX12_isOfSize_30 ?_
      refine r_iload_n 1 dX12_isOfSize_33 rfl rfl ?_
      obtain ⟨x24, hx24, h⟩ := b1_some h
      refine r_iaload sM_6 hx24 dX12_isOfSize_34 ?_
      refine r_iload_n 3 dX12_isOfSize_35 rfl rfl ?_
      refine r_icmp_ne 53 dX12_isOfSize_36 (by decide) (fun c27 => ?_) (fun c27 => ?_)
      · rw [if_neg c27] at h
        refine r_iconst (v := 0) dX12_isOfSize_53 rfl ?_
        obtain rfl := Option.some.inj h
        exact r_zreturn rfl (by decide) dX12_isOfSize_54 (hp)
      · rw [if_pos c27] at h
        refine r_aload_n 0 dX12_isOfSize_39 rfl rfl ?_
        refine r_getC (k := 0) (j := 11) (r := 7) sM_0 rfl fl_X12_36 dX12_isOfSize_40 ?_
        refine r_iload_n 1 dX12_isOfSize_43 rfl rfl ?_
        obtain ⟨x25, hx25, h⟩ := b1_some h
        refine r_iaload sM_7 hx25 dX12_isOfSize_44 ?_
        refine r_iload_n 2 dX12_isOfSize_45 rfl rfl ?_
        refine r_icmp_ne 53 dX12_isOfSize_46 (by decide) (fun c26 => ?_) (fun c26 => ?_)
        · rw [if_neg c26] at h
          refine r_iconst (v := 0) dX12_isOfSize_53 rfl ?_
          obtain rfl := Option.some.inj h
          exact r_zreturn rfl (by decide) dX12_isOfSize_54 (hp)
        · rw [if_pos c26] at h
          refine r_iconst (v := 1) dX12_isOfSize_49 rfl ?_
          refine r_goto 54 dX12_isOfSize_50 (by decide) ?_
          obtain rfl := Option.some.inj h
          exact r_zreturn rfl (by decide) dX12_isOfSize_54 (hp)
  · refine key _ hw22 (fun z ez => by cases ez) (fun z ez => ?_)
    cases ez
    obtain rfl := Option.some.inj h
    exact hp
theorem mX12_isOfSize {G : Gx} {S : St} {v1 : Int32} {v2 : Int32} {v3 : Int32} {o : Int32}  (h : fX12_isOfSize S v1 v2 v3 = some o) : MR_ G shM 0 yX12_isOfSize cX12_isOfSize 4 (some .boolean) [.ref (ad_ G 0), .int v1, .int v2, .int v3] S (PI_ o S) := MR_of cb_X12_isOfSize (Nat.le_of_ble_eq_true rfl) [(0, .ref (ad_ G 0)), (1, .int v1), (2, .int v2), (3, .int v3)] rfl (tX12_isOfSize  h ⟨rfl, rfl⟩)
set_option maxRecDepth 100000 in
set_option maxHeartbeats 4000000 in
theorem tX12_leastGrain {G : Gx} {post : Option Value → St → Prop} {S : St} {v1 : Int32} {v2 : Int32} {v3 : Int32} {v4 : Int32} {o : Int32}  (h : fX12_leastGrain S v1 v2 v3 v4 = some o) (hp : post (some (.int o)) S) : Rn G shM 0 yX12_leastGrain cX12_leastGrain 8 (some .int) 0 [(0, .ref (ad_ G 0)), (1, .int v1), (2, .int v2), (3, .int v3), (4, .int v4)] [] S post := by
  unfold fX12_leastGrain at h
  refine r_bipush (v := 9) dX12_leastGrain_0 rfl ?_
  refine r_istore (i := 5) [(0, .ref (ad_ G 0)), (1, .int v1), (2, .int v2), (3, .int v3), (4, .int v4), (5, .int 9)] [1, 2, 3, 4, 5, 0] dX12_leastGrain_2 (by decide) rfl ?_
  refine r_iload_n 2 dX12_leastGrain_4 rfl rfl ?_
  refine r_istore (i := 6) [(0, .ref (ad_ G 0)), (1, .int v1), (2, .int v2), (3, .int v3), (4, .int v4), (5, .int 9), (6, .int v2)] [1, 2, 3, 4, 5, 6, 0] dX12_leastGrain_5 (by decide) rfl ?_
  have key : ∀ ex, lp (fun w21 : Int32 × Int32 => bX12_leastGrain_7 S v1 v2 v3 v4 w21.1 w21.2) 5000 (9, v2) = some ex → (fun u33 : Int32 => Rn G shM 0 yX12_leastGrain cX12_leastGrain 8 (some .int) 77 [(5, .int u33)] [] S post) ex → Rn G shM 0 yX12_leastGrain cX12_leastGrain 8 (some .int) 7 [(0, .ref (ad_ G 0)), (1, .int v1), (2, .int v2), (3, .int v3), (4, .int v4), (5, .int 9), (6, .int v2)] [] S post := by
    intro ex hl hx
    refine lp_rule (body := (fun w21 : Int32 × Int32 => bX12_leastGrain_7 S v1 v2 v3 v4 w21.1 w21.2)) (R := (fun w21 : Int32 × Int32 => Rn G shM 0 yX12_leastGrain cX12_leastGrain 8 (some .int) 7 [(0, .ref (ad_ G 0)), (1, .int v1), (2, .int v2), (3, .int v3), (4, .int v4), (5, .int w21.1), (6, .int w21.2)] [] S post)) (X := (fun u33 : Int32 => Rn G shM 0 yX12_leastGrain cX12_leastGrain 8 (some .int) 77 [(5, .int u33)] [] S post)) ?_ 5000 (9, v2) ex hl hx
    intro w21 oo h hB hX
    obtain ⟨v22, v23⟩ := w21
    replace h : bX12_leastGrain_7 S v1 v2 v3 v4 v22 v23 = some oo := h
    unfold bX12_leastGrain_7 at h
    show Rn G shM 0 yX12_leastGrain cX12_leastGrain 8 (some .int) 7 [(0, .ref (ad_ G 0)), (1, .int v1), (2, .int v2), (3, .int v3), (4, .int v4), (5, .int v22), (6, .int v23)] [] S post
    refine r_iload 6 dX12_leastGrain_7 rfl ?_
    refine r_iload_n 2 dX12_leastGrain_9 rfl rfl ?_
    refine r_iload 4 dX12_leastGrain_10 rfl ?_
    refine r_iadd dX12_leastGrain_12 ?_
    refine r_icmp_ge 77 dX12_leastGrain_13 (by decide) (fun c32 => ?_) (fun c32 => ?_)
    · rw [if_pos c32] at h
      refine r_sub [(5, .int v22)] [5] rfl ?_
      obtain rfl := Option.some.inj h
      exact hX v22 rfl
    · rw [if_neg c32] at h
      refine r_iload_n 1 dX12_leastGrain_16 rfl rfl ?_
      refine r_istore (i := 7) [(0, .ref (ad_ G 0)), (1, .int v1), (2, .int v2), (3, .int v3), (4, .int v4), (5, .int v22), (6, .int v23), (7, .int v1)] [1, 2, 3, 4, 5, 6, 7, 0] dX12_leastGrain_17 (by decide) rfl ?_
      have key : ∀ ex, lp (fun w24 : Int32 × Int32 => bX12_leastGrain_19 S v1 v3 v23 w24.1 w24.2) 5000 (v22, v1) = some ex → (fun u31 : Int32 => Rn G shM 0 yX12_leastGrain cX12_leastGrain 8 (some .int) 71 [(0, .ref (ad_ G 0)), (1, .int v1), (2, .int v2), (3, .int v3), (4, .int v4), (5, .int u31), (6, .int v23)] [] S post) ex → Rn G shM 0 yX12_leastGrain cX12_leastGrain 8 (some .int) 19 [(0, .ref (ad_ G 0)), (1, .int v1), (2, .int v2), (3, .int v3), (4, .int v4), (5, .int v22), (6, .int v23), (7, .int v1)] [] S post := by
        intro ex hl hx
        refine lp_rule (body := (fun w24 : Int32 × Int32 => bX12_leastGrain_19 S v1 v3 v23 w24.1 w24.2)) (R := (fun w24 : Int32 × Int32 => Rn G shM 0 yX12_leastGrain cX12_leastGrain 8 (some .int) 19 [(0, .ref (ad_ G 0)), (1, .int v1), (2, .int v2), (3, .int v3), (4, .int v4), (5, .int w24.1), (6, .int v23), (7, .int w24.2)] [] S post)) (X := (fun u31 : Int32 => Rn G shM 0 yX12_leastGrain cX12_leastGrain 8 (some .int) 71 [(0, .ref (ad_ G 0)), (1, .int v1), (2, .int v2), (3, .int v3), (4, .int v4), (5, .int u31), (6, .int v23)] [] S post)) ?_ 5000 (v22, v1) ex hl hx
        intro w24 oo h hB hX
        obtain ⟨v25, v26⟩ := w24
        replace h : bX12_leastGrain_19 S v1 v3 v23 v25 v26 = some oo := h
        unfold bX12_leastGrain_19 at h
        show Rn G shM 0 yX12_leastGrain cX12_leastGrain 8 (some .int) 19 [(0, .ref (ad_ G 0)), (1, .int v1), (2, .int v2), (3, .int v3), (4, .int v4), (5, .int v25), (6, .int v23), (7, .int v26)] [] S post
        refine r_iload 7 dX12_leastGrain_19 rfl ?_
        refine r_iload_n 1 dX12_leastGrain_21 rfl rfl ?_
        refine r_iload_n 3 dX12_leastGrain_22 rfl rfl ?_
        refine r_iadd dX12_leastGrain_23 ?_
        refine r_icmp_ge 71 dX12_leastGrain_24 (by decide) (fun c30 => ?_) (fun c30 => ?_)
        · rw [if_pos c30] at h
          refine r_sub [(0, .ref (ad_ G 0)), (1, .int v1), (2, .int v2), (3, .int v3), (4, .int v4), (5, .int v25), (6, .int v23)] [0, 1, 2, 3, 4, 5, 6] rfl ?_
          obtain rfl := Option.some.inj h
          exact hX v25 rfl
        · rw [if_neg c30] at h
          refine r_aload_n 0 dX12_leastGrain_27 rfl rfl ?_
          refine r_getC (k := 0) (j := 3) (r := 2) sM_0 rfl fl_X12_20 dX12_leastGrain_28 ?_
          refine r_bipush (v := 8) dX12_leastGrain_31 rfl ?_
          refine r_iload 6 dX12_leastGrain_33 rfl ?_
          refine r_imul dX12_leastGrain_35 ?_
          refine r_iload 7 dX12_leastGrain_36 rfl ?_
          refine r_iadd dX12_leastGrain_38 ?_
          obtain ⟨x27, hx27, h⟩ := b1_some h
          refine r_iaload sM_2 hx27 dX12_leastGrain_39 ?_
          refine r_iload 5 dX12_leastGrain_40 rfl ?_
          refine r_icmp_ge 61 dX12_leastGrain_42 (by decide) (fun c29 => ?_) (fun c29 => ?_)
          · rw [if_pos c29] at h
            refine r_iload 5 dX12_leastGrain_61 rfl ?_
            refine r_istore (i := 5) [(0, .ref (ad_ G 0)), (1, .int v1), (2, .int v2), (3, .int v3), (4, .int v4), (5, .int v25), (6, .int v23), (7, .int v26)] [1, 2, 3, 4, 5, 0, 6, 7] dX12_leastGrain_63 (by decide) rfl ?_
            refine r_iinc (v := v26 + 1) [(0, .ref (ad_ G 0)), (1, .int v1), (2, .int v2), (3, .int v3), (4, .int v4), (5, .int v25), (6, .int v23), (7, .int (v26 + 1))] 7 [1, 2, 3, 4, 5, 6, 7, 0] dX12_leastGrain_65 rfl rfl (by decide) rfl ?_
            refine r_goto 19 dX12_leastGrain_68 (by decide) ?_
            obtain rfl := Option.some.inj h
            exact hB (v25, v26 + 1) rfl
          · rw [if_neg c29] at h
            refine r_aload_n 0 dX12_leastGrain_45 rfl rfl ?_
            refine r_getC (k := 0) (j := 3) (r := 2) sM_0 rfl fl_X12_20 dX12_leastGrain_46 ?_
            refine r_bipush (v := 8) dX12_leastGrain_49 rfl ?_
            refine r_iload 6 dX12_leastGrain_51 rfl ?_
            refine r_imul dX12_leastGrain_53 ?_
            refine r_iload 7 dX12_leastGrain_54 rfl ?_
            refine r_iadd dX12_leastGrain_56 ?_
            obtain ⟨x28, hx28, h⟩ := b1_some h
            refine r_iaload sM_2 hx28 dX12_leastGrain_57 ?_
            refine r_goto 63 dX12_leastGrain_58 (by decide) ?_
            refine r_istore (i := 5) [(0, .ref (ad_ G 0)), (1, .int v1), (2, .int v2), (3, .int v3), (4, .int v4), (5, .int x28), (6, .int v23), (7, .int v26)] [1, 2, 3, 4, 5, 0, 6, 7] dX12_leastGrain_63 (by decide) rfl ?_
            refine r_iinc (v := v26 + 1) [(0, .ref (ad_ G 0)), (1, .int v1), (2, .int v2), (3, .int v3), (4, .int v4), (5, .int x28), (6, .int v23), (7, .int (v26 + 1))] 7 [1, 2, 3, 4, 5, 6, 7, 0] dX12_leastGrain_65 rfl rfl (by decide) rfl ?_
            refine r_goto 19 dX12_leastGrain_68 (by decide) ?_
            obtain rfl := Option.some.inj h
            exact hB (x28, v26 + 1) rfl
      obtain ⟨u31, hu31, h⟩ := b1_some h
      refine key u31 hu31 ?_
      show Rn G shM 0 yX12_leastGrain cX12_leastGrain 8 (some .int) 71 [(0, .ref (ad_ G 0)), (1, .int v1), (2, .int v2), (3, .int v3), (4, .int v4), (5, .int u31), (6, .int v23)] [] S post
      refine r_iinc (v := v23 + 1) [(0, .ref (ad_ G 0)), (1, .int v1), (2, .int v2), (3, .int v3), (4, .int v4), (5, .int u31), (6, .int (v23 + 1))] 6 [1, 2, 3, 4, 5, 6, 0] dX12_leastGrain_71 rfl rfl (by decide) rfl ?_
      refine r_goto 7 dX12_leastGrain_74 (by decide) ?_
      obtain rfl := Option.some.inj h
      exact hB (u31, v23 + 1) rfl
  obtain ⟨u33, hu33, h⟩ := b1_some h
  refine key u33 hu33 ?_
  show Rn G shM 0 yX12_leastGrain cX12_leastGrain 8 (some .int) 77 [(5, .int u33)] [] S post
  refine r_iload 0 dX12_leastGrain_77 rfl ?_
  obtain rfl := Option.some.inj h
  exact r_ireturn rfl dX12_leastGrain_79 (hp)
theorem mX12_leastGrain {G : Gx} {S : St} {v1 : Int32} {v2 : Int32} {v3 : Int32} {v4 : Int32} {o : Int32}  (h : fX12_leastGrain S v1 v2 v3 v4 = some o) : MR_ G shM 0 yX12_leastGrain cX12_leastGrain 8 (some .int) [.ref (ad_ G 0), .int v1, .int v2, .int v3, .int v4] S (PI_ o S) := MR_of cb_X12_leastGrain (Nat.le_of_ble_eq_true rfl) [(0, .ref (ad_ G 0)), (1, .int v1), (2, .int v2), (3, .int v3), (4, .int v4)] rfl (tX12_leastGrain  h ⟨rfl, rfl⟩)
set_option maxRecDepth 100000 in
set_option maxHeartbeats 4000000 in
theorem tX12_isWhole {G : Gx} {post : Option Value → St → Prop} {S : St} {v1 : Int32} {v2 : Int32} {v3 : Int32} {v4 : Int32} {v5 : Int32} {o : Int32}  (h : fX12_isWhole S v1 v2 v3 v4 v5 = some o) (hp : post (some (.int o)) S) : Rn G shM 0 yX12_isWhole cX12_isWhole 9 (some .boolean) 0 [(0, .ref (ad_ G 0)), (1, .int v1), (2, .int v2), (3, .int v3), (4, .int v4), (5, .int v5)] [] S post := by
  unfold fX12_isWhole at h
  refine r_iconst (v := 1) dX12_isWhole_0 rfl ?_
  refine r_istore (i := 6) [(0, .ref (ad_ G 0)), (1, .int v1), (2, .int v2), (3, .int v3), (4, .int v4), (5, .int v5), (6, .int 1)] [1, 2, 3, 4, 5, 6, 0] dX12_isWhole_1 (by decide) rfl ?_
  refine r_iload_n 2 dX12_isWhole_3 rfl rfl ?_
  refine r_istore (i := 7) [(0, .ref (ad_ G 0)), (1, .int v1), (2, .int v2), (3, .int v3), (4, .int v4), (5, .int v5), (6, .int 1), (7, .int v2)] [1, 2, 3, 4, 5, 6, 7, 0] dX12_isWhole_4 (by decide) rfl ?_
  have key : ∀ ex, lp (fun w21 : Int32 × Int32 => bX12_isWhole_6 S v1 v2 v3 v4 v5 w21.1 w21.2) 5000 (1, v2) = some ex → (fun u36 : Int32 => Rn G shM 0 yX12_isWhole cX12_isWhole 9 (some .boolean) 93 [(6, .int u36)] [] S post) ex → Rn G shM 0 yX12_isWhole cX12_isWhole 9 (some .boolean) 6 [(0, .ref (ad_ G 0)), (1, .int v1), (2, .int v2), (3, .int v3), (4, .int v4), (5, .int v5), (6, .int 1), (7, .int v2)] [] S post := by
    intro ex hl hx
    refine lp_rule (body := (fun w21 : Int32 × Int32 => bX12_isWhole_6 S v1 v2 v3 v4 v5 w21.1 w21.2)) (R := (fun w21 : Int32 × Int32 => Rn G shM 0 yX12_isWhole cX12_isWhole 9 (some .boolean) 6 [(0, .ref (ad_ G 0)), (1, .int v1), (2, .int v2), (3, .int v3), (4, .int v4), (5, .int v5), (6, .int w21.1), (7, .int w21.2)] [] S post)) (X := (fun u36 : Int32 => Rn G shM 0 yX12_isWhole cX12_isWhole 9 (some .boolean) 93 [(6, .int u36)] [] S post)) ?_ 5000 (1, v2) ex hl hx
    intro w21 oo h hB hX
    obtain ⟨v22, v23⟩ := w21
    replace h : bX12_isWhole_6 S v1 v2 v3 v4 v5 v22 v23 = some oo := h
    unfold bX12_isWhole_6 at h
    show Rn G shM 0 yX12_isWhole cX12_isWhole 9 (some .boolean) 6 [(0, .ref (ad_ G 0)), (1, .int v1), (2, .int v2), (3, .int v3), (4, .int v4), (5, .int v5), (6, .int v22), (7, .int v23)] [] S post
    refine r_iload 7 dX12_isWhole_6 rfl ?_
    refine r_iload_n 2 dX12_isWhole_8 rfl rfl ?_
    refine r_iload 4 dX12_isWhole_9 rfl ?_
    refine r_iadd dX12_isWhole_11 ?_
    refine r_icmp_ge 93 dX12_isWhole_12 (by decide) (fun c35 => ?_) (fun c35 => ?_)
    · rw [if_pos c35] at h
      refine r_sub [(6, .int v22)] [6] rfl ?_
      obtain rfl := Option.some.inj h
      exact hX v22 rfl
    · rw [if_neg c35] at h
      refine r_iload_n 1 dX12_isWhole_15 rfl rfl ?_
      refine r_istore (i := 8) [(0, .ref (ad_ G 0)), (1, .int v1), (2, .int v2), (3, .int v3), (4, .int v4), (5, .int v5), (6, .int v22), (7, .int v23), (8, .int v1)] [1, 2, 3, 4, 5, 6, 7, 8, 0] dX12_isWhole_16 (by decide) rfl ?_
      have key : ∀ ex, lp (fun w24 : Int32 × Int32 => bX12_isWhole_18 S v1 v3 v5 v23 w24.1 w24.2) 5000 (v22, v1) = some ex → (fun u34 : Int32 => Rn G shM 0 yX12_isWhole cX12_isWhole 9 (some .boolean) 87 [(0, .ref (ad_ G 0)), (1, .int v1), (2, .int v2), (3, .int v3), (4, .int v4), (5, .int v5), (6, .int u34), (7, .int v23)] [] S post) ex → Rn G shM 0 yX12_isWhole cX12_isWhole 9 (some .boolean) 18 [(0, .ref (ad_ G 0)), (1, .int v1), (2, .int v2), (3, .int v3), (4, .int v4), (5, .int v5), (6, .int v22), (7, .int v23), (8, .int v1)] [] S post := by
        intro ex hl hx
        refine lp_rule (body := (fun w24 : Int32 × Int32 => bX12_isWhole_18 S v1 v3 v5 v23 w24.1 w24.2)) (R := (fun w24 : Int32 × Int32 => Rn G shM 0 yX12_isWhole cX12_isWhole 9 (some .boolean) 18 [(0, .ref (ad_ G 0)), (1, .int v1), (2, .int v2), (3, .int v3), (4, .int v4), (5, .int v5), (6, .int w24.1), (7, .int v23), (8, .int w24.2)] [] S post)) (X := (fun u34 : Int32 => Rn G shM 0 yX12_isWhole cX12_isWhole 9 (some .boolean) 87 [(0, .ref (ad_ G 0)), (1, .int v1), (2, .int v2), (3, .int v3), (4, .int v4), (5, .int v5), (6, .int u34), (7, .int v23)] [] S post)) ?_ 5000 (v22, v1) ex hl hx
        intro w24 oo h hB hX
        obtain ⟨v25, v26⟩ := w24
        replace h : bX12_isWhole_18 S v1 v3 v5 v23 v25 v26 = some oo := h
        unfold bX12_isWhole_18 at h
        show Rn G shM 0 yX12_isWhole cX12_isWhole 9 (some .boolean) 18 [(0, .ref (ad_ G 0)), (1, .int v1), (2, .int v2), (3, .int v3), (4, .int v4), (5, .int v5), (6, .int v25), (7, .int v23), (8, .int v26)] [] S post
        refine r_iload 8 dX12_isWhole_18 rfl ?_
        refine r_iload_n 1 dX12_isWhole_20 rfl rfl ?_
        refine r_iload_n 3 dX12_isWhole_21 rfl rfl ?_
        refine r_iadd dX12_isWhole_22 ?_
        refine r_icmp_ge 87 dX12_isWhole_23 (by decide) (fun c33 => ?_) (fun c33 => ?_)
        · rw [if_pos c33] at h
          refine r_sub [(0, .ref (ad_ G 0)), (1, .int v1), (2, .int v2), (3, .int v3), (4, .int v4), (5, .int v5), (6, .int v25), (7, .int v23)] [0, 1, 2, 3, 4, 5, 6, 7] rfl ?_
          obtain rfl := Option.some.inj h
          exact hX v25 rfl
        · rw [if_neg c33] at h
          refine r_iload 6 dX12_isWhole_26 rfl ?_
          refine r_if_eq 78 dX12_isWhole_28 (by decide) (fun c32 => ?_) (fun c32 => ?_)
          · rw [if_pos c32] at h
            refine r_iconst (v := 0) dX12_isWhole_78 rfl ?_
            refine r_istore (i := 6) [(0, .ref (ad_ G 0)), (1, .int v1), (2, .int v2), (3, .int v3), (4, .int v4), (5, .int v5), (6, .int 0), (7, .int v23), (8, .int v26)] [1, 2, 3, 4, 5, 6, 0, 7, 8] dX12_isWhole_79 (by decide) rfl ?_
            refine r_iinc (v := v26 + 1) [(0, .ref (ad_ G 0)), (1, .int v1), (2, .int v2), (3, .int v3), (4, .int v4), (5, .int v5), (6, .int 0), (7, .int v23), (8, .int (v26 + 1))] 8 [1, 2, 3, 4, 5, 6, 7, 8, 0] dX12_isWhole_81 rfl rfl (by decide) rfl ?_
            refine r_goto 18 dX12_isWhole_84 (by decide) ?_
            obtain rfl := Option.some.inj h
            exact hB (0, v26 + 1) rfl
          · rw [if_neg c32] at h
            refine r_aload_n 0 dX12_isWhole_31 rfl rfl ?_
            refine r_getC (k := 0) (j := 2) (r := 1) sM_0 rfl fl_X12_16 dX12_isWhole_32 ?_
            refine r_bipush (v := 8) dX12_isWhole_35 rfl ?_
            refine r_iload 7 dX12_isWhole_37 rfl ?_
            refine r_imul dX12_isWhole_39 ?_
            refine r_iload 8 dX12_isWhole_40 rfl ?_
            refine r_iadd dX12_isWhole_42 ?_
            obtain ⟨x27, hx27, h⟩ := b1_some h
            refine r_zaload sM_1 hx27 dX12_isWhole_43 ?_
            refine r_if_ne 78 dX12_isWhole_44 (by decide) (fun c31 => ?_) (fun c31 => ?_)
            · rw [if_neg c31] at h
              refine r_iconst (v := 0) dX12_isWhole_78 rfl ?_
              refine r_istore (i := 6) [(0, .ref (ad_ G 0)), (1, .int v1), (2, .int v2), (3, .int v3), (4, .int v4), (5, .int v5), (6, .int 0), (7, .int v23), (8, .int v26)] [1, 2, 3, 4, 5, 6, 0, 7, 8] dX12_isWhole_79 (by decide) rfl ?_
              refine r_iinc (v := v26 + 1) [(0, .ref (ad_ G 0)), (1, .int v1), (2, .int v2), (3, .int v3), (4, .int v4), (5, .int v5), (6, .int 0), (7, .int v23), (8, .int (v26 + 1))] 8 [1, 2, 3, 4, 5, 6, 7, 8, 0] dX12_isWhole_81 rfl rfl (by decide) rfl ?_
              refine r_goto 18 dX12_isWhole_84 (by decide) ?_
              obtain rfl := Option.some.inj h
              exact hB (0, v26 + 1) rfl
            · rw [if_pos c31] at h
              refine r_iload 5 dX12_isWhole_47 rfl ?_
              refine r_if_lt 74 dX12_isWhole_49 (by decide) (fun c30 => ?_) (fun c30 => ?_)
              · rw [if_pos c30] at h
                refine r_iconst (v := 1) dX12_isWhole_74 rfl ?_
                refine r_goto 79 dX12_isWhole_75 (by decide) ?_
                refine r_istore (i := 6) [(0, .ref (ad_ G 0)), (1, .int v1), (2, .int v2), (3, .int v3), (4, .int v4), (5, .int v5), (6, .int 1), (7, .int v23), (8, .int v26)] [1, 2, 3, 4, 5, 6, 0, 7, 8] dX12_isWhole_79 (by decide) rfl ?_
                refine r_iinc (v := v26 + 1) [(0, .ref (ad_ G 0)), (1, .int v1), (2, .int v2), (3, .int v3), (4, .int v4), (5, .int v5), (6, .int 1), (7, .int v23), (8, .int (v26 + 1))] 8 [1, 2, 3, 4, 5, 6, 7, 8, 0] dX12_isWhole_81 rfl rfl (by decide) rfl ?_
                refine r_goto 18 dX12_isWhole_84 (by decide) ?_
                obtain rfl := Option.some.inj h
                exact hB (1, v26 + 1) rfl
              · rw [if_neg c30] at h
                refine r_aload_n 0 dX12_isWhole_52 rfl rfl ?_
                refine r_getC (k := 0) (j := 5) (r := 3) sM_0 rfl fl_X12_24 dX12_isWhole_53 ?_
                refine r_bipush (v := 64) dX12_isWhole_56 rfl ?_
                refine r_iload 5 dX12_isWhole_58 rfl ?_
                refine r_imul dX12_isWhole_60 ?_
                refine r_bipush (v := 8) dX12_isWhole_61 rfl ?_
                refine r_iload 7 dX12_isWhole_63 rfl ?_
                refine r_imul dX12_isWhole_65 ?_
                refine r_iadd dX12_isWhole_66 ?_
                refine r_iload 8 dX12_isWhole_67 rfl ?_
                refine r_iadd dX12_isWhole_69 ?_
                obtain ⟨x28, hx28, h⟩ := b1_some h
                refine r_zaload sM_3 hx28 dX12_isWhole_70 ?_
                refine r_if_ne 78 dX12_isWhole_71 (by decide) (fun c29 => ?_) (fun c29 => ?_)
                · rw [if_neg c29] at h
                  refine r_iconst (v := 0) dX12_isWhole_78 rfl ?_
                  refine r_istore (i := 6) [(0, .ref (ad_ G 0)), (1, .int v1), (2, .int v2), (3, .int v3), (4, .int v4), (5, .int v5), (6, .int 0), (7, .int v23), (8, .int v26)] [1, 2, 3, 4, 5, 6, 0, 7, 8] dX12_isWhole_79 (by decide) rfl ?_
                  refine r_iinc (v := v26 + 1) [(0, .ref (ad_ G 0)), (1, .int v1), (2, .int v2), (3, .int v3), (4, .int v4), (5, .int v5), (6, .int 0), (7, .int v23), (8, .int (v26 + 1))] 8 [1, 2, 3, 4, 5, 6, 7, 8, 0] dX12_isWhole_81 rfl rfl (by decide) rfl ?_
                  refine r_goto 18 dX12_isWhole_84 (by decide) ?_
                  obtain rfl := Option.some.inj h
                  exact hB (0, v26 + 1) rfl
                · rw [if_pos c29] at h
                  refine r_iconst (v := 1) dX12_isWhole_74 rfl ?_
                  refine r_goto 79 dX12_isWhole_75 (by decide) ?_
                  refine r_istore (i := 6) [(0, .ref (ad_ G 0)), (1, .int v1), (2, .int v2), (3, .int v3), (4, .int v4), (5, .int v5), (6, .int 1), (7, .int v23), (8, .int v26)] [1, 2, 3, 4, 5, 6, 0, 7, 8] dX12_isWhole_79 (by decide) rfl ?_
                  refine r_iinc (v := v26 + 1) [(0, .ref (ad_ G 0)), (1, .int v1), (2, .int v2), (3, .int v3), (4, .int v4), (5, .int v5), (6, .int 1), (7, .int v23), (8, .int (v26 + 1))] 8 [1, 2, 3, 4, 5, 6, 7, 8, 0] dX12_isWhole_81 rfl rfl (by decide) rfl ?_
                  refine r_goto 18 dX12_isWhole_84 (by decide) ?_
                  obtain rfl := Option.some.inj h
                  exact hB (1, v26 + 1) rfl
      obtain ⟨u34, hu34, h⟩ := b1_some h
      refine key u34 hu34 ?_
      show Rn G shM 0 yX12_isWhole cX12_isWhole 9 (some .boolean) 87 [(0, .ref (ad_ G 0)), (1, .int v1), (2, .int v2), (3, .int v3), (4, .int v4), (5, .int v5), (6, .int u34), (7, .int v23)] [] S post
      refine r_iinc (v := v23 + 1) [(0, .ref (ad_ G 0)), (1, .int v1), (2, .int v2), (3, .int v3), (4, .int v4), (5, .int v5), (6, .int u34), (7, .int (v23 + 1))] 7 [1, 2, 3, 4, 5, 6, 7, 0] dX12_isWhole_87 rfl rfl (by decide) rfl ?_
      refine r_goto 6 dX12_isWhole_90 (by decide) ?_
      obtain rfl := Option.some.inj h
      exact hB (u34, v23 + 1) rfl
  obtain ⟨u36, hu36, h⟩ := b1_some h
  refine key u36 hu36 ?_
  show Rn G shM 0 yX12_isWhole cX12_isWhole 9 (some .boolean) 93 [(6, .int u36)] [] S post
  refine r_iload 0 dX12_isWhole_93 rfl ?_
  obtain ⟨z37, hz37, h⟩ := b1_some h
  obtain ⟨ez37, nz37⟩ := bz_some hz37
  rw [ez37] at h
  obtain rfl := Option.some.inj h
  exact r_zreturn rfl nz37 dX12_isWhole_95 (hp)
theorem mX12_isWhole {G : Gx} {S : St} {v1 : Int32} {v2 : Int32} {v3 : Int32} {v4 : Int32} {v5 : Int32} {o : Int32}  (h : fX12_isWhole S v1 v2 v3 v4 v5 = some o) : MR_ G shM 0 yX12_isWhole cX12_isWhole 9 (some .boolean) [.ref (ad_ G 0), .int v1, .int v2, .int v3, .int v4, .int v5] S (PI_ o S) := MR_of cb_X12_isWhole (Nat.le_of_ble_eq_true rfl) [(0, .ref (ad_ G 0)), (1, .int v1), (2, .int v2), (3, .int v3), (4, .int v4), (5, .int v5)] rfl (tX12_isWhole  h ⟨rfl, rfl⟩)
set_option maxRecDepth 100000 in
set_option maxHeartbeats 4000000 in
theorem tX12_doesFit {G : Gx} {post : Option Value → St → Prop} {S : St} {v1 : Int32} {v2 : Int32} {v3 : Int32} {v4 : Int32} {v5 : Int32} {v6 : Int32} {o : Int32}  (h : fX12_doesFit S v1 v2 v3 v4 v5 v6 = some o) (hp : post (some (.int o)) S) : Rn G shM 1 yX12_doesFit cX12_doesFit 7 (some .boolean) 0 [(0, .ref (ad_ G 0)), (1, .int v1), (2, .int v2), (3, .int v3), (4, .int v4), (5, .int v5), (6, .int v6)] [] S post := by
  unfold fX12_doesFit at h
  refine r_aload_n 0 dX12_doesFit_0 rfl rfl ?_
  refine r_iload 5 dX12_doesFit_1 rfl ?_
  refine r_iload_n 3 dX12_doesFit_3 rfl rfl ?_
  refine r_iload 4 dX12_doesFit_4 rfl ?_
  obtain ⟨x21, hx21, h⟩ := b1_some h
  refine r_callVi (k := 0) (rest := []) (by omega) (mX12_isOfSize hx21) sM_0 rfl rfl cb_X12_isOfSize ml_X12_174 im_X12_isOfSize se_X12_isOfSize rfl rfl (Nat.le_of_ble_eq_true rfl) dX12_doesFit_6 ?_
  refine r_if_eq 49 dX12_doesFit_9 (by decide) (fun c27 => ?_) (fun c27 => ?_)
  · rw [if_pos c27] at h
    refine r_iconst (v := 0) dX12_doesFit_49 rfl ?_
    obtain rfl := Option.some.inj h
    exact r_zreturn rfl (by decide) dX12_doesFit_50 (hp)
  · rw [if_neg c27] at h
    refine r_aload_n 0 dX12_doesFit_12 rfl rfl ?_
    refine r_iload_n 1 dX12_doesFit_13 rfl rfl ?_
    refine r_iload_n 2 dX12_doesFit_14 rfl rfl ?_
    refine r_iload_n 3 dX12_doesFit_15 rfl rfl ?_
    refine r_iload 4 dX12_doesFit_16 rfl ?_
    obtain ⟨x22, hx22, h⟩ := b1_some h
    refine r_callVi (k := 0) (rest := []) (by omega) (mX12_leastGrain hx22) sM_0 rfl rfl cb_X12_leastGrain ml_X12_178 im_X12_leastGrain se_X12_leastGrain rfl rfl (Nat.le_of_ble_eq_true rfl) dX12_doesFit_18 ?_
    refine r_aload_n 0 dX12_doesFit_21 rfl rfl ?_
    refine r_getC (k := 0) (j := 13) (r := 9) sM_0 rfl fl_X12_42 dX12_doesFit_22 ?_
    refine r_iload 5 dX12_doesFit_25 rfl ?_
    obtain ⟨x23, hx23, h⟩ := b1_some h
    refine r_iaload sM_9 hx23 dX12_doesFit_27 ?_
    refine r_icmp_lt 49 dX12_doesFit_28 (by decide) (fun c26 => ?_) (fun c26 => ?_)
    · rw [if_pos c26] at h
      refine r_iconst (v := 0) dX12_doesFit_49 rfl ?_
      obtain rfl := Option.some.inj h
      exact r_zreturn rfl (by decide) dX12_doesFit_50 (hp)
    · rw [if_neg c26] at h
      refine r_aload_n 0 dX12_doesFit_31 rfl rfl ?_
      refine r_iload_n 1 dX12_doesFit_32 rfl rfl ?_
      refine r_iload_n 2 dX12_doesFit_33 rfl rfl ?_
      refine r_iload_n 3 dX12_doesFit_34 rfl rfl ?_
      refine r_iload 4 dX12_doesFit_35 rfl ?_
      refine r_iload 6 dX12_doesFit_37 rfl ?_
      obtain ⟨x24, hx24, h⟩ := b1_some h
      refine r_callVi (k := 0) (rest := []) (by omega) (mX12_isWhole hx24) sM_0 rfl rfl cb_X12_isWhole ml_X12_182 im_X12_isWhole se_X12_isWhole rfl rfl (Nat.le_of_ble_eq_true rfl) dX12_doesFit_39 ?_
      refine r_if_eq 49 dX12_doesFit_42 (by decide) (fun c25 => ?_) (fun c25 => ?_)
      · rw [if_pos c25] at h
        refine r_iconst (v := 0) dX12_doesFit_49 rfl ?_
        obtain rfl := Option.some.inj h
        exact r_zreturn rfl (by decide) dX12_doesFit_50 (hp)
      · rw [if_neg c25] at h
        refine r_iconst (v := 1) dX12_doesFit_45 rfl ?_
        refine r_goto 50 dX12_doesFit_46 (by decide) ?_
        obtain rfl := Option.some.inj h
        exact r_zreturn rfl (by decide) dX12_doesFit_50 (hp)
theorem mX12_doesFit {G : Gx} {S : St} {v1 : Int32} {v2 : Int32} {v3 : Int32} {v4 : Int32} {v5 : Int32} {v6 : Int32} {o : Int32}  (h : fX12_doesFit S v1 v2 v3 v4 v5 v6 = some o) : MR_ G shM 1 yX12_doesFit cX12_doesFit 7 (some .boolean) [.ref (ad_ G 0), .int v1, .int v2, .int v3, .int v4, .int v5, .int v6] S (PI_ o S) := MR_of cb_X12_doesFit (Nat.le_of_ble_eq_true rfl) [(0, .ref (ad_ G 0)), (1, .int v1), (2, .int v2), (3, .int v3), (4, .int v4), (5, .int v5), (6, .int v6)] rfl (tX12_doesFit  h ⟨rfl, rfl⟩)
set_option maxRecDepth 100000 in
set_option maxHeartbeats 4000000 in
theorem tX12_fits {G : Gx} {post : Option Value → St → Prop} {S : St} {v1 : Int32} {v2 : Int32} {v3 : Int32} {v4 : Int32} {v5 : Int32} {o : Int32}  (h : fX12_fits S v1 v2 v3 v4 v5 = some o) (hp : post (some (.int o)) S) : Rn G shM 3 yX12_fits cX12_fits 6 (some .int) 0 [(0, .ref (ad_ G 0)), (1, .int v1), (2, .int v2), (3, .int v3), (4, .int v4), (5, .int v5)] [] S post := by
  unfold fX12_fits at h
  refine r_aload_n 0 dX12_fits_0 rfl rfl ?_
  refine r_iload_n 1 dX12_fits_1 rfl rfl ?_
  refine r_iload_n 2 dX12_fits_2 rfl rfl ?_
  refine r_iload_n 3 dX12_fits_3 rfl rfl ?_
  refine r_iload 4 dX12_fits_4 rfl ?_
  obtain ⟨x21, hx21, h⟩ := b1_some h
  refine r_callVi (k := 0) (rest := []) (by omega) (mX12_isBlock hx21) sM_0 rfl rfl cb_X12_isBlock ml_X12_186 im_X12_isBlock se_X12_isBlock rfl rfl (Nat.le_of_ble_eq_true rfl) dX12_fits_6 ?_
  refine r_if_eq 21 dX12_fits_9 (by decide) (fun c26 => ?_) (fun c26 => ?_)
  · rw [if_pos c26] at h
    refine r_iconst (v := (-1)) dX12_fits_21 rfl ?_
    refine r_goto 46 dX12_fits_22 (by decide) ?_
    obtain rfl := Option.some.inj h
    exact r_ireturn rfl dX12_fits_46 (hp)
  · rw [if_neg c26] at h
    refine r_aload_n 0 dX12_fits_12 rfl rfl ?_
    refine r_iload 5 dX12_fits_13 rfl ?_
    obtain ⟨x22, hx22, h⟩ := b1_some h
    refine r_callVi (k := 0) (rest := []) (by omega) (mX12_isShape hx22) sM_0 rfl rfl cb_X12_isShape ml_X12_190 im_X12_isShape se_X12_isShape rfl rfl (Nat.le_of_ble_eq_true rfl) dX12_fits_15 ?_
    refine r_if_ne 25 dX12_fits_18 (by decide) (fun c25 => ?_) (fun c25 => ?_)
    · rw [if_neg c25] at h
      refine r_aload_n 0 dX12_fits_25 rfl rfl ?_
      refine r_iload_n 1 dX12_fits_26 rfl rfl ?_
      refine r_iload_n 2 dX12_fits_27 rfl rfl ?_
      refine r_iload_n 3 dX12_fits_28 rfl rfl ?_
      refine r_iload 4 dX12_fits_29 rfl ?_
      refine r_iload 5 dX12_fits_31 rfl ?_
      refine r_bipush (v := (-4)) dX12_fits_33 rfl ?_
      obtain ⟨x23, hx23, h⟩ := b1_some h
      refine r_callVi (k := 0) (rest := []) (by omega) (mX12_doesFit hx23) sM_0 rfl rfl cb_X12_doesFit ml_X12_194 im_X12_doesFit se_X12_doesFit rfl rfl (Nat.le_of_ble_eq_true rfl) dX12_fits_35 ?_
      refine r_if_eq 45 dX12_fits_38 (by decide) (fun c24 => ?_) (fun c24 => ?_)
      · rw [if_pos c24] at h
        refine r_iconst (v := 0) dX12_fits_45 rfl ?_
        obtain rfl := Option.some.inj h
        exact r_ireturn rfl dX12_fits_46 (hp)
      · rw [if_neg c24] at h
        refine r_iconst (v := 1) dX12_fits_41 rfl ?_
        refine r_goto 46 dX12_fits_42 (by decide) ?_
        obtain rfl := Option.some.inj h
        exact r_ireturn rfl dX12_fits_46 (hp)
    · rw [if_pos c25] at h
      refine r_iconst (v := (-1)) dX12_fits_21 rfl ?_
      refine r_goto 46 dX12_fits_22 (by decide) ?_
      obtain rfl := Option.some.inj h
      exact r_ireturn rfl dX12_fits_46 (hp)
theorem mX12_fits {G : Gx} {S : St} {v1 : Int32} {v2 : Int32} {v3 : Int32} {v4 : Int32} {v5 : Int32} {o : Int32}  (h : fX12_fits S v1 v2 v3 v4 v5 = some o) : MR_ G shM 3 yX12_fits cX12_fits 6 (some .int) [.ref (ad_ G 0), .int v1, .int v2, .int v3, .int v4, .int v5] S (PI_ o S) := MR_of cb_X12_fits (Nat.le_of_ble_eq_true rfl) [(0, .ref (ad_ G 0)), (1, .int v1), (2, .int v2), (3, .int v3), (4, .int v4), (5, .int v5)] rfl (tX12_fits  h ⟨rfl, rfl⟩)
set_option maxRecDepth 100000 in
set_option maxHeartbeats 4000000 in
theorem tX12_isOpen {G : Gx} {post : Option Value → St → Prop} {S : St} {v1 : Int32} {o : Int32}  (h : fX12_isOpen S v1 = some o) (hp : post (some (.int o)) S) : Rn G shM 3 yX12_isOpen cX12_isOpen 8 (some .boolean) 0 [(0, .ref (ad_ G 0)), (1, .int v1)] [] S post := by
  unfold fX12_isOpen at h
  refine r_iconst (v := 0) dX12_isOpen_0 rfl ?_
  refine r_istore_n (i := 2) [(0, .ref (ad_ G 0)), (1, .int v1), (2, .int 0)] [1, 2, 0] dX12_isOpen_1 rfl (by decide) rfl ?_
  refine r_iconst (v := 0) dX12_isOpen_2 rfl ?_
  refine r_istore_n (i := 3) [(0, .ref (ad_ G 0)), (1, .int v1), (2, .int 0), (3, .int 0)] [1, 2, 3, 0] dX12_isOpen_3 rfl (by decide) rfl ?_
  have key : ∀ ex, lp (fun w21 : Int32 × Int32 => bX12_isOpen_4 S v1 w21.1 w21.2) 5000 (0, 0) = some ex → (fun u32 : Int32 => Rn G shM 3 yX12_isOpen cX12_isOpen 8 (some .boolean) 107 [(2, .int u32)] [] S post) ex → Rn G shM 3 yX12_isOpen cX12_isOpen 8 (some .boolean) 4 [(0, .ref (ad_ G 0)), (1, .int v1), (2, .int 0), (3, .int 0)] [] S post := by
    intro ex hl hx
    refine lp_rule (body := (fun w21 : Int32 × Int32 => bX12_isOpen_4 S v1 w21.1 w21.2)) (R := (fun w21 : Int32 × Int32 => Rn G shM 3 yX12_isOpen cX12_isOpen 8 (some .boolean) 4 [(0, .ref (ad_ G 0)), (1, .int v1), (2, .int w21.1), (3, .int w21.2)] [] S post)) (X := (fun u32 : Int32 => Rn G shM 3 yX12_isOpen cX12_isOpen 8 (some .boolean) 107 [(2, .int u32)] [] S post)) ?_ 5000 (0, 0) ex hl hx
    intro w21 oo h hB hX
    obtain ⟨v22, v23⟩ := w21
    replace h : bX12_isOpen_4 S v1 v22 v23 = some oo := h
    unfold bX12_isOpen_4 at h
    show Rn G shM 3 yX12_isOpen cX12_isOpen 8 (some .boolean) 4 [(0, .ref (ad_ G 0)), (1, .int v1), (2, .int v22), (3, .int v23)] [] S post
    refine r_iload_n 3 dX12_isOpen_4 rfl rfl ?_
    refine r_sipush (v := 4096) dX12_isOpen_5 rfl ?_
    refine r_icmp_ge 107 dX12_isOpen_8 (by decide) (fun c31 => ?_) (fun c31 => ?_)
    · rw [if_pos c31] at h
      refine r_sub [(2, .int v22)] [2] rfl ?_
      obtain rfl := Option.some.inj h
      exact hX v22 rfl
    · rw [if_neg c31] at h
      refine r_iload_n 2 dX12_isOpen_11 rfl rfl ?_
      refine r_if_ne 107 dX12_isOpen_12 (by decide) (fun c30 => ?_) (fun c30 => ?_)
      · rw [if_neg c30] at h
        refine r_sub [(2, .int v22)] [2] rfl ?_
        obtain rfl := Option.some.inj h
        exact hX v22 rfl
      · rw [if_pos c30] at h
        refine r_iload_n 3 dX12_isOpen_15 rfl rfl ?_
        refine r_bipush (v := 8) dX12_isOpen_16 rfl ?_
        refine r_irem dX12_isOpen_18 (by decide) ?_
        refine r_istore (i := 4) [(0, .ref (ad_ G 0)), (1, .int v1), (2, .int v22), (3, .int v23), (4, .int (v23 - v23 / 8 * 8))] [1, 2, 3, 4, 0] dX12_isOpen_19 (by decide) rfl ?_
        refine r_iload_n 3 dX12_isOpen_21 rfl rfl ?_
        refine r_bipush (v := 8) dX12_isOpen_22 rfl ?_
        refine r_idiv dX12_isOpen_24 (by decide) ?_
        refine r_bipush (v := 8) dX12_isOpen_25 rfl ?_
        refine r_irem dX12_isOpen_27 (by decide) ?_
        refine r_istore (i := 5) [(0, .ref (ad_ G 0)), (1, .int v1), (2, .int v22), (3, .int v23), (4, .int (v23 - v23 / 8 * 8)), (5, .int ((v23 / 8) - (v23 / 8) / 8 * 8))] [1, 2, 3, 4, 5, 0] dX12_isOpen_28 (by decide) rfl ?_
        refine r_iload_n 3 dX12_isOpen_30 rfl rfl ?_
        refine r_bipush (v := 64) dX12_isOpen_31 rfl ?_
        refine r_idiv dX12_isOpen_33 (by decide) ?_
        refine r_bipush (v := 8) dX12_isOpen_34 rfl ?_
        refine r_irem dX12_isOpen_36 (by decide) ?_
        refine r_iconst (v := 1) dX12_isOpen_37 rfl ?_
        refine r_iadd dX12_isOpen_38 ?_
        refine r_istore (i := 6) [(0, .ref (ad_ G 0)), (1, .int v1), (2, .int v22), (3, .int v23), (4, .int (v23 - v23 / 8 * 8)), (5, .int ((v23 / 8) - (v23 / 8) / 8 * 8)), (6, .int (((v23 / 64) - (v23 / 64) / 8 * 8) + 1))] [1, 2, 3, 4, 5, 6, 0] dX12_isOpen_39 (by decide) rfl ?_
        refine r_iload_n 3 dX12_isOpen_41 rfl rfl ?_
        refine r_sipush (v := 512) dX12_isOpen_42 rfl ?_
        refine r_idiv dX12_isOpen_45 (by decide) ?_
        refine r_iconst (v := 1) dX12_isOpen_46 rfl ?_
        refine r_iadd dX12_isOpen_47 ?_
        refine r_istore (i := 7) [(0, .ref (ad_ G 0)), (1, .int v1), (2, .int v22), (3, .int v23), (4, .int (v23 - v23 / 8 * 8)), (5, .int ((v23 / 8) - (v23 / 8) / 8 * 8)), (6, .int (((v23 / 64) - (v23 / 64) / 8 * 8) + 1)), (7, .int ((v23 / 512) + 1))] [1, 2, 3, 4, 5, 6, 7, 0] dX12_isOpen_48 (by decide) rfl ?_
        refine r_aload_n 0 dX12_isOpen_50 rfl rfl ?_
        refine r_iload 4 dX12_isOpen_51 rfl ?_
        refine r_iload 5 dX12_isOpen_53 rfl ?_
        refine r_iload 6 dX12_isOpen_55 rfl ?_
        refine r_iload 7 dX12_isOpen_57 rfl ?_
        obtain ⟨x24, hx24, h⟩ := b1_some h
        refine r_callVi (k := 0) (rest := []) (by omega) (mX12_isBlock hx24) sM_0 rfl rfl cb_X12_isBlock ml_X12_186 im_X12_isBlock se_X12_isBlock rfl rfl (Nat.le_of_ble_eq_true rfl) dX12_isOpen_59 ?_
        refine r_if_eq 99 dX12_isOpen_62 (by decide) (fun c29 => ?_) (fun c29 => ?_)
        · rw [if_pos c29] at h
          refine r_iconst (v := 0) dX12_isOpen_99 rfl ?_
          refine r_istore_n (i := 2) [(0, .ref (ad_ G 0)), (1, .int v1), (2, .int 0), (3, .int v23), (4, .int (v23 - v23 / 8 * 8)), (5, .int ((v23 / 8) - (v23 / 8) / 8 * 8)), (6, .int (((v23 / 64) - (v23 / 64) / 8 * 8) + 1)), (7, .int ((v23 / 512) + 1))] [1, 2, 0, 3, 4, 5, 6, 7] dX12_isOpen_100 rfl (by decide) rfl ?_
          refine r_iinc (v := v23 + 1) [(0, .ref (ad_ G 0)), (1, .int v1), (2, .int 0), (3, .int (v23 + 1)), (4, .int (v23 - v23 / 8 * 8)), (5, .int ((v23 / 8) - (v23 / 8) / 8 * 8)), (6, .int (((v23 / 64) - (v23 / 64) / 8 * 8) + 1)), (7, .int ((v23 / 512) + 1))] 3 [1, 2, 3, 0, 4, 5, 6, 7] dX12_isOpen_101 rfl rfl (by decide) rfl ?_
          refine r_goto 4 dX12_isOpen_104 (by decide) ?_
          refine r_sub [(0, .ref (ad_ G 0)), (1, .int v1), (2, .int 0), (3, .int (v23 + 1))] [0, 1, 2, 3] rfl ?_
          obtain rfl := Option.some.inj h
          exact hB (0, v23 + 1) rfl
        · rw [if_neg c29] at h
          refine r_aload_n 0 dX12_isOpen_65 rfl rfl ?_
          refine r_iload_n 1 dX12_isOpen_66 rfl rfl ?_
          refine r_iload 6 dX12_isOpen_67 rfl ?_
          refine r_iload 7 dX12_isOpen_69 rfl ?_
          obtain ⟨x25, hx25, h⟩ := b1_some h
          refine r_callVi (k := 0) (rest := []) (by omega) (mX12_isOfSize hx25) sM_0 rfl rfl cb_X12_isOfSize ml_X12_174 im_X12_isOfSize se_X12_isOfSize rfl rfl (Nat.le_of_ble_eq_true rfl) dX12_isOpen_71 ?_
          refine r_if_eq 99 dX12_isOpen_74 (by decide) (fun c28 => ?_) (fun c28 => ?_)
          · rw [if_pos c28] at h
            refine r_iconst (v := 0) dX12_isOpen_99 rfl ?_
            refine r_istore_n (i := 2) [(0, .ref (ad_ G 0)), (1, .int v1), (2, .int 0), (3, .int v23), (4, .int (v23 - v23 / 8 * 8)), (5, .int ((v23 / 8) - (v23 / 8) / 8 * 8)), (6, .int (((v23 / 64) - (v23 / 64) / 8 * 8) + 1)), (7, .int ((v23 / 512) + 1))] [1, 2, 0, 3, 4, 5, 6, 7] dX12_isOpen_100 rfl (by decide) rfl ?_
            refine r_iinc (v := v23 + 1) [(0, .ref (ad_ G 0)), (1, .int v1), (2, .int 0), (3, .int (v23 + 1)), (4, .int (v23 - v23 / 8 * 8)), (5, .int ((v23 / 8) - (v23 / 8) / 8 * 8)), (6, .int (((v23 / 64) - (v23 / 64) / 8 * 8) + 1)), (7, .int ((v23 / 512) + 1))] 3 [1, 2, 3, 0, 4, 5, 6, 7] dX12_isOpen_101 rfl rfl (by decide) rfl ?_
            refine r_goto 4 dX12_isOpen_104 (by decide) ?_
            refine r_sub [(0, .ref (ad_ G 0)), (1, .int v1), (2, .int 0), (3, .int (v23 + 1))] [0, 1, 2, 3] rfl ?_
            obtain rfl := Option.some.inj h
            exact hB (0, v23 + 1) rfl
          · rw [if_neg c28] at h
            refine r_aload_n 0 dX12_isOpen_77 rfl rfl ?_
            refine r_iload 4 dX12_isOpen_78 rfl ?_
            refine r_iload 5 dX12_isOpen_80 rfl ?_
            refine r_iload 6 dX12_isOpen_82 rfl ?_
            refine r_iload 7 dX12_isOpen_84 rfl ?_
            refine r_iload_n 1 dX12_isOpen_86 rfl rfl ?_
            refine r_bipush (v := (-4)) dX12_isOpen_87 rfl ?_
            obtain ⟨x26, hx26, h⟩ := b1_some h
            refine r_callVi (k := 0) (rest := []) (by omega) (mX12_doesFit hx26) sM_0 rfl rfl cb_X12_doesFit ml_X12_194 im_X12_doesFit se_X12_doesFit rfl rfl (Nat.le_of_ble_eq_true rfl) dX12_isOpen_89 ?_
            refine r_if_eq 99 dX12_isOpen_92 (by decide) (fun c27 => ?_) (fun c27 => ?_)
            · rw [if_pos c27] at h
              refine r_iconst (v := 0) dX12_isOpen_99 rfl ?_
              refine r_istore_n (i := 2) [(0, .ref (ad_ G 0)), (1, .int v1), (2, .int 0), (3, .int v23), (4, .int (v23 - v23 / 8 * 8)), (5, .int ((v23 / 8) - (v23 / 8) / 8 * 8)), (6, .int (((v23 / 64) - (v23 / 64) / 8 * 8) + 1)), (7, .int ((v23 / 512) + 1))] [1, 2, 0, 3, 4, 5, 6, 7] dX12_isOpen_100 rfl (by decide) rfl ?_
              refine r_iinc (v := v23 + 1) [(0, .ref (ad_ G 0)), (1, .int v1), (2, .int 0), (3, .int (v23 + 1)), (4, .int (v23 - v23 / 8 * 8)), (5, .int ((v23 / 8) - (v23 / 8) / 8 * 8)), (6, .int (((v23 / 64) - (v23 / 64) / 8 * 8) + 1)), (7, .int ((v23 / 512) + 1))] 3 [1, 2, 3, 0, 4, 5, 6, 7] dX12_isOpen_101 rfl rfl (by decide) rfl ?_
              refine r_goto 4 dX12_isOpen_104 (by decide) ?_
              refine r_sub [(0, .ref (ad_ G 0)), (1, .int v1), (2, .int 0), (3, .int (v23 + 1))] [0, 1, 2, 3] rfl ?_
              obtain rfl := Option.some.inj h
              exact hB (0, v23 + 1) rfl
            · rw [if_neg c27] at h
              refine r_iconst (v := 1) dX12_isOpen_95 rfl ?_
              refine r_goto 100 dX12_isOpen_96 (by decide) ?_
              refine r_istore_n (i := 2) [(0, .ref (ad_ G 0)), (1, .int v1), (2, .int 1), (3, .int v23), (4, .int (v23 - v23 / 8 * 8)), (5, .int ((v23 / 8) - (v23 / 8) / 8 * 8)), (6, .int (((v23 / 64) - (v23 / 64) / 8 * 8) + 1)), (7, .int ((v23 / 512) + 1))] [1, 2, 0, 3, 4, 5, 6, 7] dX12_isOpen_100 rfl (by decide) rfl ?_
              refine r_iinc (v := v23 + 1) [(0, .ref (ad_ G 0)), (1, .int v1), (2, .int 1), (3, .int (v23 + 1)), (4, .int (v23 - v23 / 8 * 8)), (5, .int ((v23 / 8) - (v23 / 8) / 8 * 8)), (6, .int (((v23 / 64) - (v23 / 64) / 8 * 8) + 1)), (7, .int ((v23 / 512) + 1))] 3 [1, 2, 3, 0, 4, 5, 6, 7] dX12_isOpen_101 rfl rfl (by decide) rfl ?_
              refine r_goto 4 dX12_isOpen_104 (by decide) ?_
              refine r_sub [(0, .ref (ad_ G 0)), (1, .int v1), (2, .int 1), (3, .int (v23 + 1))] [0, 1, 2, 3] rfl ?_
              obtain rfl := Option.some.inj h
              exact hB (1, v23 + 1) rfl
  obtain ⟨u32, hu32, h⟩ := b1_some h
  refine key u32 hu32 ?_
  show Rn G shM 3 yX12_isOpen cX12_isOpen 8 (some .boolean) 107 [(2, .int u32)] [] S post
  refine r_iload_n 0 dX12_isOpen_107 rfl rfl ?_
  obtain ⟨z33, hz33, h⟩ := b1_some h
  obtain ⟨ez33, nz33⟩ := bz_some hz33
  rw [ez33] at h
  obtain rfl := Option.some.inj h
  exact r_zreturn rfl nz33 dX12_isOpen_108 (hp)
theorem mX12_isOpen {G : Gx} {S : St} {v1 : Int32} {o : Int32}  (h : fX12_isOpen S v1 = some o) : MR_ G shM 3 yX12_isOpen cX12_isOpen 8 (some .boolean) [.ref (ad_ G 0), .int v1] S (PI_ o S) := MR_of cb_X12_isOpen (Nat.le_of_ble_eq_true rfl) [(0, .ref (ad_ G 0)), (1, .int v1)] rfl (tX12_isOpen  h ⟨rfl, rfl⟩)
set_option maxRecDepth 100000 in
set_option maxHeartbeats 4000000 in
theorem tX12_open {G : Gx} {post : Option Value → St → Prop} {S : St} {o : Int32}  (h : fX12_open S = some o) (hp : post (some (.int o)) S) : Rn G shM 4 yX12_open cX12_open 3 (some .int) 0 [(0, .ref (ad_ G 0))] [] S post := by
  unfold fX12_open at h
  refine r_iconst (v := 0) dX12_open_0 rfl ?_
  refine r_istore_n (i := 1) [(0, .ref (ad_ G 0)), (1, .int 0)] [1, 0] dX12_open_1 rfl (by decide) rfl ?_
  refine r_iconst (v := 0) dX12_open_2 rfl ?_
  refine r_istore_n (i := 2) [(0, .ref (ad_ G 0)), (1, .int 0), (2, .int 0)] [1, 2, 0] dX12_open_3 rfl (by decide) rfl ?_
  have key : ∀ ex, lp (fun w21 : Int32 × Int32 => bX12_open_4 S w21.1 w21.2) 5000 (0, 0) = some ex → (fun u28 : Int32 => Rn G shM 4 yX12_open cX12_open 3 (some .int) 36 [(1, .int u28)] [] S post) ex → Rn G shM 4 yX12_open cX12_open 3 (some .int) 4 [(0, .ref (ad_ G 0)), (1, .int 0), (2, .int 0)] [] S post := by
    intro ex hl hx
    refine lp_rule (body := (fun w21 : Int32 × Int32 => bX12_open_4 S w21.1 w21.2)) (R := (fun w21 : Int32 × Int32 => Rn G shM 4 yX12_open cX12_open 3 (some .int) 4 [(0, .ref (ad_ G 0)), (1, .int w21.1), (2, .int w21.2)] [] S post)) (X := (fun u28 : Int32 => Rn G shM 4 yX12_open cX12_open 3 (some .int) 36 [(1, .int u28)] [] S post)) ?_ 5000 (0, 0) ex hl hx
    intro w21 oo h hB hX
    obtain ⟨v22, v23⟩ := w21
    replace h : bX12_open_4 S v22 v23 = some oo := h
    unfold bX12_open_4 at h
    show Rn G shM 4 yX12_open cX12_open 3 (some .int) 4 [(0, .ref (ad_ G 0)), (1, .int v22), (2, .int v23)] [] S post
    refine r_iload_n 2 dX12_open_4 rfl rfl ?_
    refine r_aload_n 0 dX12_open_5 rfl rfl ?_
    refine r_getI (k := 0) (j := 9) sM_0 rfl fl_X12_166 dX12_open_6 ?_
    refine r_icmp_ge 36 dX12_open_9 (by decide) (fun c27 => ?_) (fun c27 => ?_)
    · rw [if_pos c27] at h
      refine r_sub [(1, .int v22)] [1] rfl ?_
      obtain rfl := Option.some.inj h
      exact hX v22 rfl
    · rw [if_neg c27] at h
      refine r_iload_n 1 dX12_open_12 rfl rfl ?_
      refine r_aload_n 0 dX12_open_13 rfl rfl ?_
      refine r_iload_n 2 dX12_open_14 rfl rfl ?_
      obtain ⟨x24, hx24, h⟩ := b1_some h
      refine r_callVi (k := 0) (rest := [.int v22]) (by omega) (mX12_isOpen hx24) sM_0 rfl rfl cb_X12_isOpen ml_X12_198 im_X12_isOpen se_X12_isOpen rfl rfl (Nat.le_of_ble_eq_true rfl) dX12_open_15 ?_
      refine r_if_eq 27 dX12_open_18 (by decide) (fun c26 => ?_) (fun c26 => ?_)
      · rw [if_pos c26] at h
        refine r_iconst (v := 0) dX12_open_27 rfl ?_
        refine r_ior dX12_open_28 ?_
        refine r_istore_n (i := 1) [(0, .ref (ad_ G 0)), (1, .int (v22 ||| 0)), (2, .int v23)] [1, 0, 2] dX12_open_29 rfl (by decide) rfl ?_
        refine r_iinc (v := v23 + 1) [(0, .ref (ad_ G 0)), (1, .int (v22 ||| 0)), (2, .int (v23 + 1))] 2 [1, 2, 0] dX12_open_30 rfl rfl (by decide) rfl ?_
        refine r_goto 4 dX12_open_33 (by decide) ?_
        obtain rfl := Option.some.inj h
        exact hB (v22 ||| 0, v23 + 1) rfl
      · rw [if_neg c26] at h
        refine r_iconst (v := 1) dX12_open_21 rfl ?_
        refine r_iload_n 2 dX12_open_22 rfl rfl ?_
        refine r_ishl dX12_open_23 ?_
        refine r_goto 28 dX12_open_24 (by decide) ?_
        refine r_ior dX12_open_28 ?_
        obtain ⟨x25, hx25, h⟩ := b1_some h
        rw [Option.some.inj hx25]
        refine r_istore_n (i := 1) [(0, .ref (ad_ G 0)), (1, .int x25), (2, .int v23)] [1, 0, 2] dX12_open_29 rfl (by decide) rfl ?_
        refine r_iinc (v := v23 + 1) [(0, .ref (ad_ G 0)), (1, .int x25), (2, .int (v23 + 1))] 2 [1, 2, 0] dX12_open_30 rfl rfl (by decide) rfl ?_
        refine r_goto 4 dX12_open_33 (by decide) ?_
        obtain rfl := Option.some.inj h
        exact hB (x25, v23 + 1) rfl
  obtain ⟨u28, hu28, h⟩ := b1_some h
  refine key u28 hu28 ?_
  show Rn G shM 4 yX12_open cX12_open 3 (some .int) 36 [(1, .int u28)] [] S post
  refine r_iload_n 0 dX12_open_36 rfl rfl ?_
  obtain rfl := Option.some.inj h
  exact r_ireturn rfl dX12_open_37 (hp)
theorem mX12_open {G : Gx} {S : St} {o : Int32}  (h : fX12_open S = some o) : MR_ G shM 4 yX12_open cX12_open 3 (some .int) [.ref (ad_ G 0)] S (PI_ o S) := MR_of cb_X12_open (Nat.le_of_ble_eq_true rfl) [(0, .ref (ad_ G 0))] rfl (tX12_open  h ⟨rfl, rfl⟩)
set_option maxRecDepth 100000 in
set_option maxHeartbeats 4000000 in
theorem tX12_blockAt {G : Gx} {post : Option Value → St → Prop} {S : St} {v0 : Int32} {v1 : Int32} {v2 : Int32} {v3 : Int32} {o : Int32}  (h : fX12_blockAt S v0 v1 v2 v3 = some o) (hp : post (some (.int o)) S) : Rn G shM 0 yX12_blockAt cX12_blockAt 4 (some .int) 0 [(0, .int v0), (1, .int v1), (2, .int v2), (3, .int v3)] [] S post := by
  unfold fX12_blockAt at h
  refine r_sipush (v := 512) dX12_blockAt_0 rfl ?_
  refine r_iload_n 3 dX12_blockAt_3 rfl rfl ?_
  refine r_iconst (v := 1) dX12_blockAt_4 rfl ?_
  refine r_isub dX12_blockAt_5 ?_
  refine r_imul dX12_blockAt_6 ?_
  refine r_bipush (v := 64) dX12_blockAt_7 rfl ?_
  refine r_iload_n 2 dX12_blockAt_9 rfl rfl ?_
  refine r_iconst (v := 1) dX12_blockAt_10 rfl ?_
  refine r_isub dX12_blockAt_11 ?_
  refine r_imul dX12_blockAt_12 ?_
  refine r_iadd dX12_blockAt_13 ?_
  refine r_bipush (v := 8) dX12_blockAt_14 rfl ?_
  refine r_iload_n 1 dX12_blockAt_16 rfl rfl ?_
  refine r_imul dX12_blockAt_17 ?_
  refine r_iadd dX12_blockAt_18 ?_
  refine r_iload_n 0 dX12_blockAt_19 rfl rfl ?_
  refine r_iadd dX12_blockAt_20 ?_
  obtain rfl := Option.some.inj h
  exact r_ireturn rfl dX12_blockAt_21 (hp)
theorem mX12_blockAt {G : Gx} {S : St} {v0 : Int32} {v1 : Int32} {v2 : Int32} {v3 : Int32} {o : Int32}  (h : fX12_blockAt S v0 v1 v2 v3 = some o) : MR_ G shM 0 yX12_blockAt cX12_blockAt 4 (some .int) [.int v0, .int v1, .int v2, .int v3] S (PI_ o S) := MR_of cb_X12_blockAt (Nat.le_of_ble_eq_true rfl) [(0, .int v0), (1, .int v1), (2, .int v2), (3, .int v3)] rfl (tX12_blockAt  h ⟨rfl, rfl⟩)
