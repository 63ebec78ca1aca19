set_option maxRecDepth 100000 in
set_option maxHeartbeats 4000000 in
theorem tX12_soldAs {G : Gx} {post : Option Value → St → Prop} {S : St} {v1 : Int32} {o : Int32}  (h : fX12_soldAs S v1 = some o) (hp : post (some (.int o)) S) : Rn G shM 0 yX12_soldAs cX12_soldAs 3 (some .int) 0 [(0, .ref (ad_ G 0)), (1, .int v1)] [] S post := by
  unfold fX12_soldAs at h
  refine r_aload_n 0 dX12_soldAs_0 rfl rfl ?_
  refine r_getC (k := 0) (j := 34) (r := 27) sM_0 rfl fl_X12_97 dX12_soldAs_1 ?_
  refine r_iload_n 1 dX12_soldAs_4 rfl rfl ?_
  obtain ⟨x21, hx21, h⟩ := b1_some h
  refine r_iaload sM_27 hx21 dX12_soldAs_5 ?_
  refine r_istore_n (i := 2) [(0, .ref (ad_ G 0)), (1, .int v1), (2, .int x21)] [1, 2, 0] dX12_soldAs_6 rfl (by decide) rfl ?_
  have key : ∀ ex, lp (fun w22 : Int32 => bX12_soldAs_7 S v1 w22) 5000 x21 = some ex → (fun u29 : Int32 => Rn G shM 0 yX12_soldAs cX12_soldAs 3 (some .int) 38 [(2, .int u29)] [] S post) ex → Rn G shM 0 yX12_soldAs cX12_soldAs 3 (some .int) 7 [(0, .ref (ad_ G 0)), (1, .int v1), (2, .int x21)] [] S post := by
    intro ex hl hx
    refine lp_rule (body := (fun w22 : Int32 => bX12_soldAs_7 S v1 w22)) (R := (fun w22 : Int32 => Rn G shM 0 yX12_soldAs cX12_soldAs 3 (some .int) 7 [(0, .ref (ad_ G 0)), (1, .int v1), (2, .int w22)] [] S post)) (X := (fun u29 : Int32 => Rn G shM 0 yX12_soldAs cX12_soldAs 3 (some .int) 38 [(2, .int u29)] [] S post)) ?_ 5000 x21 ex hl hx
    intro w22 oo h hB hX
    obtain ⟨v23, rfl⟩ : ∃ z, z = w22 := ⟨_, rfl⟩
    replace h : bX12_soldAs_7 S v1 v23 = some oo := h
    unfold bX12_soldAs_7 at h
    show Rn G shM 0 yX12_soldAs cX12_soldAs 3 (some .int) 7 [(0, .ref (ad_ G 0)), (1, .int v1), (2, .int v23)] [] S post
    refine r_iload_n 2 dX12_soldAs_7 rfl rfl ?_
    refine r_bipush (v := (-4)) dX12_soldAs_8 rfl ?_
    refine r_icmp_eq 38 dX12_soldAs_10 (by decide) (fun c28 => ?_) (fun c28 => ?_)
    · rw [if_pos c28] at h
      refine r_sub [(2, .int v23)] [2] rfl ?_
      obtain rfl := Option.some.inj h
      exact hX v23 rfl
    · rw [if_neg c28] at h
      refine r_aload_n 0 dX12_soldAs_13 rfl rfl ?_
      refine r_getC (k := 0) (j := 30) (r := 23) sM_0 rfl fl_X12_85 dX12_soldAs_14 ?_
      refine r_iload_n 1 dX12_soldAs_17 rfl rfl ?_
      obtain ⟨x24, hx24, h⟩ := b1_some h
      refine r_iaload sM_23 hx24 dX12_soldAs_18 ?_
      refine r_aload_n 0 dX12_soldAs_19 rfl rfl ?_
      refine r_getC (k := 0) (j := 47) (r := 32) sM_0 rfl fl_X12_112 dX12_soldAs_20 ?_
      refine r_iload_n 2 dX12_soldAs_23 rfl rfl ?_
      obtain ⟨x25, hx25, h⟩ := b1_some h
      refine r_iaload sM_32 hx25 dX12_soldAs_24 ?_
      refine r_icmp_ge 38 dX12_soldAs_25 (by decide) (fun c27 => ?_) (fun c27 => ?_)
      · rw [if_pos c27] at h
        refine r_sub [(2, .int v23)] [2] rfl ?_
        obtain rfl := Option.some.inj h
        exact hX v23 rfl
      · rw [if_neg c27] at h
        refine r_aload_n 0 dX12_soldAs_28 rfl rfl ?_
        refine r_getC (k := 0) (j := 48) (r := 33) sM_0 rfl fl_X12_115 dX12_soldAs_29 ?_
        refine r_iload_n 2 dX12_soldAs_32 rfl rfl ?_
        obtain ⟨x26, hx26, h⟩ := b1_some h
        refine r_iaload sM_33 hx26 dX12_soldAs_33 ?_
        refine r_istore_n (i := 2) [(0, .ref (ad_ G 0)), (1, .int v1), (2, .int x26)] [1, 2, 0] dX12_soldAs_34 rfl (by decide) rfl ?_
        refine r_goto 7 dX12_soldAs_35 (by decide) ?_
        obtain rfl := Option.some.inj h
        exact hB x26 rfl
  obtain ⟨u29, hu29, h⟩ := b1_some h
  refine key u29 hu29 ?_
  show Rn G shM 0 yX12_soldAs cX12_soldAs 3 (some .int) 38 [(2, .int u29)] [] S post
  refine r_iload_n 0 dX12_soldAs_38 rfl rfl ?_
  obtain rfl := Option.some.inj h
  exact r_ireturn rfl dX12_soldAs_39 (hp)
theorem mX12_soldAs {G : Gx} {S : St} {v1 : Int32} {o : Int32}  (h : fX12_soldAs S v1 = some o) : MR_ G shM 0 yX12_soldAs cX12_soldAs 3 (some .int) [.ref (ad_ G 0), .int v1] S (PI_ o S) := MR_of cb_X12_soldAs (Nat.le_of_ble_eq_true rfl) [(0, .ref (ad_ G 0)), (1, .int v1)] rfl (tX12_soldAs  h ⟨rfl, rfl⟩)
set_option maxRecDepth 100000 in
set_option maxHeartbeats 4000000 in
theorem tX12_wentOn {G : Gx} {post : Option Value → St → Prop} {S : St} {v1 : Int32} {v2 : Int32} {o : Int32}  (h : fX12_wentOn S v1 v2 = some o) (hp : post (some (.int o)) S) : Rn G shM 0 yX12_wentOn cX12_wentOn 5 (some .int) 0 [(0, .ref (ad_ G 0)), (1, .int v1), (2, .int v2)] [] S post := by
  unfold fX12_wentOn at h
  refine r_iconst (v := 0) dX12_wentOn_0 rfl ?_
  refine r_istore_n (i := 3) [(0, .ref (ad_ G 0)), (1, .int v1), (2, .int v2), (3, .int 0)] [1, 2, 3, 0] dX12_wentOn_1 rfl (by decide) rfl ?_
  refine r_iload_n 1 dX12_wentOn_2 rfl rfl ?_
  refine r_istore (i := 4) [(0, .ref (ad_ G 0)), (1, .int v1), (2, .int v2), (3, .int 0), (4, .int v1)] [1, 2, 3, 4, 0] dX12_wentOn_3 (by decide) rfl ?_
  refine r_sub [(0, .ref (ad_ G 0)), (2, .int v2), (3, .int 0), (4, .int v1)] [0, 2, 3, 4] rfl ?_
  have key : ∀ ex, lp (fun w21 : Int32 × Int32 => bX12_wentOn_5 S v2 w21.1 w21.2) 5000 (0, v1) = some ex → (fun u28 : Int32 => Rn G shM 0 yX12_wentOn cX12_wentOn 5 (some .int) 38 [(3, .int u28)] [] S post) ex → Rn G shM 0 yX12_wentOn cX12_wentOn 5 (some .int) 5 [(0, .ref (ad_ G 0)), (2, .int v2), (3, .int 0), (4, .int v1)] [] S post := by
    intro ex hl hx
    refine lp_rule (body := (fun w21 : Int32 × Int32 => bX12_wentOn_5 S v2 w21.1 w21.2)) (R := (fun w21 : Int32 × Int32 => Rn G shM 0 yX12_wentOn cX12_wentOn 5 (some .int) 5 [(0, .ref (ad_ G 0)), (2, .int v2), (3, .int w21.1), (4, .int w21.2)] [] S post)) (X := (fun u28 : Int32 => Rn G shM 0 yX12_wentOn cX12_wentOn 5 (some .int) 38 [(3, .int u28)] [] S post)) ?_ 5000 (0, v1) ex hl hx
    intro w21 oo h hB hX
    obtain ⟨v22, v23⟩ := w21
    replace h : bX12_wentOn_5 S v2 v22 v23 = some oo := h
    unfold bX12_wentOn_5 at h
    show Rn G shM 0 yX12_wentOn cX12_wentOn 5 (some .int) 5 [(0, .ref (ad_ G 0)), (2, .int v2), (3, .int v22), (4, .int v23)] [] S post
    refine r_iload 3 dX12_wentOn_5 rfl ?_
    refine r_iload_n 1 dX12_wentOn_7 rfl rfl ?_
    refine r_icmp_eq 38 dX12_wentOn_8 (by decide) (fun c27 => ?_) (fun c27 => ?_)
    · rw [if_pos c27] at h
      refine r_sub [(3, .int v22)] [2] rfl ?_
      obtain rfl := Option.some.inj h
      exact hX v22 rfl
    · rw [if_neg c27] at h
      refine r_aload_n 0 dX12_wentOn_11 rfl rfl ?_
      refine r_getC (k := 0) (j := 48) (r := 33) sM_0 rfl fl_X12_115 dX12_wentOn_12 ?_
      refine r_iload 3 dX12_wentOn_15 rfl ?_
      obtain ⟨x24, hx24, h⟩ := b1_some h
      refine r_iaload sM_33 hx24 dX12_wentOn_17 ?_
      refine r_bipush (v := (-4)) dX12_wentOn_18 rfl ?_
      refine r_icmp_eq 38 dX12_wentOn_20 (by decide) (fun c26 => ?_) (fun c26 => ?_)
      · rw [if_pos c26] at h
        refine r_sub [(3, .int v22)] [2] rfl ?_
        obtain rfl := Option.some.inj h
        exact hX v22 rfl
      · rw [if_neg c26] at h
        refine r_iinc (v := v22 + 1) [(0, .ref (ad_ G 0)), (2, .int v2), (3, .int (v22 + 1)), (4, .int v23)] 2 [1, 2, 0, 3] dX12_wentOn_23 rfl rfl (by decide) rfl ?_
        refine r_aload_n 0 dX12_wentOn_26 rfl rfl ?_
        refine r_getC (k := 0) (j := 48) (r := 33) sM_0 rfl fl_X12_115 dX12_wentOn_27 ?_
        refine r_iload 3 dX12_wentOn_30 rfl ?_
        obtain ⟨x25, hx25, h⟩ := b1_some h
        refine r_iaload sM_33 hx25 dX12_wentOn_32 ?_
        refine r_istore (i := 4) [(0, .ref (ad_ G 0)), (2, .int v2), (3, .int (v22 + 1)), (4, .int x25)] [1, 2, 3, 0] dX12_wentOn_33 (by decide) rfl ?_
        refine r_goto 5 dX12_wentOn_35 (by decide) ?_
        obtain rfl := Option.some.inj h
        exact hB (v22 + 1, x25) rfl
  obtain ⟨u28, hu28, h⟩ := b1_some h
  refine key u28 hu28 ?_
  show Rn G shM 0 yX12_wentOn cX12_wentOn 5 (some .int) 38 [(3, .int u28)] [] S post
  refine r_iload_n 0 dX12_wentOn_38 rfl rfl ?_
  obtain rfl := Option.some.inj h
  exact r_ireturn rfl dX12_wentOn_39 (hp)
theorem mX12_wentOn {G : Gx} {S : St} {v1 : Int32} {v2 : Int32} {o : Int32}  (h : fX12_wentOn S v1 v2 = some o) : MR_ G shM 0 yX12_wentOn cX12_wentOn 5 (some .int) [.ref (ad_ G 0), .int v1, .int v2] S (PI_ o S) := MR_of cb_X12_wentOn (Nat.le_of_ble_eq_true rfl) [(0, .ref (ad_ G 0)), (1, .int v1), (2, .int v2)] rfl (tX12_wentOn  h ⟨rfl, rfl⟩)
set_option maxRecDepth 100000 in
set_option maxHeartbeats 4000000 in
theorem tX12_told {G : Gx} {post : Option Value → St → Prop} {S : St} {v1 : Int32} {v2 : Int32} {o : Int32}  (h : fX12_told S v1 v2 = some o) (hp : post (some (.int o)) S) : Rn G shM 1 yX12_told cX12_told 3 (some .int) 0 [(0, .ref (ad_ G 0)), (1, .int v1), (2, .int v2)] [] S post := by
  unfold fX12_told at h
  refine r_iload_n 1 dX12_told_0 rfl rfl ?_
  refine r_i2l dX12_told_1 ?_
  refine r_lconst (v := 0) dX12_told_2 rfl ?_
  refine r_aload_n 0 dX12_told_3 rfl rfl ?_
  refine r_getI (k := 0) (j := 28) sM_0 rfl fl_X12_251 dX12_told_4 ?_
  refine r_iconst (v := 1) dX12_told_7 rfl ?_
  refine r_isub dX12_told_8 ?_
  refine r_i2l dX12_told_9 ?_
  obtain ⟨x21, hx21, h⟩ := b1_some h
  refine r_callSi (rest := []) (by omega) (mX12_in hx21) cb_X12_in ml_X12_145 sm_X12_in rfl rfl (Nat.le_of_ble_eq_true rfl) dX12_told_10 ?_
  refine r_if_eq 28 dX12_told_13 (by decide) (fun c42 => ?_) (fun c42 => ?_)
  · rw [if_pos c42] at h
    refine r_bipush (v := (-100)) dX12_told_28 rfl ?_
    obtain rfl := Option.some.inj h
    exact r_ireturn rfl dX12_told_30 (hp)
  · rw [if_neg c42] at h
    refine r_iload_n 2 dX12_told_16 rfl rfl ?_
    refine r_i2l dX12_told_17 ?_
    refine r_lconst (v := 0) dX12_told_18 rfl ?_
    refine r_ldc2 kl_X12_249 dX12_told_19 ?_
    obtain ⟨x22, hx22, h⟩ := b1_some h
    refine r_callSi (rest := []) (by omega) (mX12_in hx22) cb_X12_in ml_X12_145 sm_X12_in rfl rfl (Nat.le_of_ble_eq_true rfl) dX12_told_22 ?_
    refine r_if_ne 31 dX12_told_25 (by decide) (fun c41 => ?_) (fun c41 => ?_)
    · rw [if_neg c41] at h
      refine r_iload_n 2 dX12_told_31 rfl rfl ?_
      by_cases c24 : v2 = 0
      · rw [if_pos c24] at h
        refine r_tableIn 76 dX12_told_32 c24 (by decide) (by decide) rfl (by decide) ?_
        refine r_aload_n 0 dX12_told_76 rfl rfl ?_
        refine r_getC (k := 0) (j := 29) (r := 22) sM_0 rfl fl_X12_82 dX12_told_77 ?_
        refine r_iload_n 1 dX12_told_80 rfl rfl ?_
        obtain ⟨x23, hx23, h⟩ := b1_some h
        refine r_iaload sM_22 hx23 dX12_told_81 ?_
        obtain rfl := Option.some.inj h
        exact r_ireturn rfl dX12_told_82 (hp)
      · rw [if_neg c24] at h
        by_cases c26 : v2 = 1
        · rw [if_pos c26] at h
          refine r_tableIn 83 dX12_told_32 c26 (by decide) (by decide) rfl (by decide) ?_
          refine r_aload_n 0 dX12_told_83 rfl rfl ?_
          refine r_getC (k := 0) (j := 30) (r := 23) sM_0 rfl fl_X12_85 dX12_told_84 ?_
          refine r_iload_n 1 dX12_told_87 rfl rfl ?_
          obtain ⟨x25, hx25, h⟩ := b1_some h
          refine r_iaload sM_23 hx25 dX12_told_88 ?_
          obtain rfl := Option.some.inj h
          exact r_ireturn rfl dX12_told_89 (hp)
        · rw [if_neg c26] at h
          by_cases c29 : v2 = 2
          · rw [if_pos c29] at h
            refine r_tableIn 90 dX12_told_32 c29 (by decide) (by decide) rfl (by decide) ?_
            refine r_aload_n 0 dX12_told_90 rfl rfl ?_
            refine r_getC (k := 0) (j := 31) (r := 24) sM_0 rfl fl_X12_88 dX12_told_91 ?_
            refine r_iload_n 1 dX12_told_94 rfl rfl ?_
            obtain ⟨x27, hx27, h⟩ := b1_some h
            refine r_zaload sM_24 hx27 dX12_told_95 ?_
            refine r_if_eq 103 dX12_told_96 (by decide) (fun c28 => ?_) (fun c28 => ?_)
            · rw [if_pos c28] at h
              refine r_iconst (v := 0) dX12_told_103 rfl ?_
              obtain rfl := Option.some.inj h
              exact r_ireturn rfl dX12_told_104 (hp)
            · rw [if_neg c28] at h
              refine r_iconst (v := 1) dX12_told_99 rfl ?_
              refine r_goto 104 dX12_told_100 (by decide) ?_
              obtain rfl := Option.some.inj h
              exact r_ireturn rfl dX12_told_104 (hp)
          · rw [if_neg c29] at h
            by_cases c31 : v2 = 3
            · rw [if_pos c31] at h
              refine r_tableIn 105 dX12_told_32 c31 (by decide) (by decide) rfl (by decide) ?_
              refine r_aload_n 0 dX12_told_105 rfl rfl ?_
              refine r_getC (k := 0) (j := 32) (r := 25) sM_0 rfl fl_X12_91 dX12_told_106 ?_
              refine r_iload_n 1 dX12_told_109 rfl rfl ?_
              obtain ⟨x30, hx30, h⟩ := b1_some h
              refine r_iaload sM_25 hx30 dX12_told_110 ?_
              obtain rfl := Option.some.inj h
              exact r_ireturn rfl dX12_told_111 (hp)
            · rw [if_neg c31] at h
              by_cases c33 : v2 = 4
              · rw [if_pos c33] at h
                refine r_tableIn 112 dX12_told_32 c33 (by decide) (by decide) rfl (by decide) ?_
                refine r_aload_n 0 dX12_told_112 rfl rfl ?_
                refine r_getC (k := 0) (j := 33) (r := 26) sM_0 rfl fl_X12_94 dX12_told_113 ?_
                refine r_iload_n 1 dX12_told_116 rfl rfl ?_
                obtain ⟨x32, hx32, h⟩ := b1_some h
                refine r_iaload sM_26 hx32 dX12_told_117 ?_
                obtain rfl := Option.some.inj h
                exact r_ireturn rfl dX12_told_118 (hp)
              · rw [if_neg c33] at h
                by_cases c35 : v2 = 5
                · rw [if_pos c35] at h
                  refine r_tableIn 119 dX12_told_32 c35 (by decide) (by decide) rfl (by decide) ?_
                  refine r_aload_n 0 dX12_told_119 rfl rfl ?_
                  refine r_getC (k := 0) (j := 34) (r := 27) sM_0 rfl fl_X12_97 dX12_told_120 ?_
                  refine r_iload_n 1 dX12_told_123 rfl rfl ?_
                  obtain ⟨x34, hx34, h⟩ := b1_some h
                  refine r_iaload sM_27 hx34 dX12_told_124 ?_
                  obtain rfl := Option.some.inj h
                  exact r_ireturn rfl dX12_told_125 (hp)
                · rw [if_neg c35] at h
                  by_cases c37 : v2 = 6
                  · rw [if_pos c37] at h
                    refine r_tableIn 126 dX12_told_32 c37 (by decide) (by decide) rfl (by decide) ?_
                    refine r_aload_n 0 dX12_told_126 rfl rfl ?_
                    refine r_iload_n 1 dX12_told_127 rfl rfl ?_
                    obtain ⟨x36, hx36, h⟩ := b1_some h
                    refine r_callVi (k := 0) (rest := []) (by omega) (mX12_soldAs hx36) sM_0 rfl rfl cb_X12_soldAs ml_X12_261 im_X12_soldAs se_X12_soldAs rfl rfl (Nat.le_of_ble_eq_true rfl) dX12_told_128 ?_
                    obtain rfl := Option.some.inj h
                    exact r_ireturn rfl dX12_told_131 (hp)
                  · rw [if_neg c37] at h
                    have nc24 : (v2 : Int32).toInt ≠ 0 := ne_toInt c24
                    have nc26 : (v2 : Int32).toInt ≠ 1 := ne_toInt c26
                    have nc29 : (v2 : Int32).toInt ≠ 2 := ne_toInt c29
                    have nc31 : (v2 : Int32).toInt ≠ 3 := ne_toInt c31
                    have nc33 : (v2 : Int32).toInt ≠ 4 := ne_toInt c33
                    have nc35 : (v2 : Int32).toInt ≠ 5 := ne_toInt c35
                    have nc37 : (v2 : Int32).toInt ≠ 6 := ne_toInt c37
                    refine r_tableOut 132 dX12_told_32 (by omega) (by decide) ?_
                    refine r_aload_n 0 dX12_told_132 rfl rfl ?_
                    refine r_aload_n 0 dX12_told_133 rfl rfl ?_
                    refine r_getC (k := 0) (j := 34) (r := 27) sM_0 rfl fl_X12_97 dX12_told_134 ?_
                    refine r_iload_n 1 dX12_told_137 rfl rfl ?_
                    obtain ⟨x38, hx38, h⟩ := b1_some h
                    refine r_iaload sM_27 hx38 dX12_told_138 ?_
                    refine r_aload_n 0 dX12_told_139 rfl rfl ?_
                    refine r_iload_n 1 dX12_told_140 rfl rfl ?_
                    obtain ⟨x39, hx39, h⟩ := b1_some h
                    refine r_callVi (k := 0) (rest := [.int x38, .ref (ad_ G 0)]) (by omega) (mX12_soldAs hx39) sM_0 rfl rfl cb_X12_soldAs ml_X12_261 im_X12_soldAs se_X12_soldAs rfl rfl (Nat.le_of_ble_eq_true rfl) dX12_told_141 ?_
                    obtain ⟨x40, hx40, h⟩ := b1_some h
                    refine r_callVi (k := 0) (rest := []) (by omega) (mX12_wentOn hx40) sM_0 rfl rfl cb_X12_wentOn ml_X12_264 im_X12_wentOn se_X12_wentOn rfl rfl (Nat.le_of_ble_eq_true rfl) dX12_told_144 ?_
                    obtain rfl := Option.some.inj h
                    exact r_ireturn rfl dX12_told_147 (hp)
    · rw [if_pos c41] at h
      refine r_bipush (v := (-100)) dX12_told_28 rfl ?_
      obtain rfl := Option.some.inj h
      exact r_ireturn rfl dX12_told_30 (hp)
theorem mX12_told {G : Gx} {S : St} {v1 : Int32} {v2 : Int32} {o : Int32}  (h : fX12_told S v1 v2 = some o) : MR_ G shM 1 yX12_told cX12_told 3 (some .int) [.ref (ad_ G 0), .int v1, .int v2] S (PI_ o S) := MR_of cb_X12_told (Nat.le_of_ble_eq_true rfl) [(0, .ref (ad_ G 0)), (1, .int v1), (2, .int v2)] rfl (tX12_told  h ⟨rfl, rfl⟩)
set_option maxRecDepth 100000 in
set_option maxHeartbeats 4000000 in
theorem tX12_feed {G : Gx} {post : Option Value → St → Prop} {S : St} {v1 : Int64} {o : (Int32 × St)}  (h : fX12_feed S v1 = some o) (hp : post (some (.int o.1)) o.2) : Rn G shM 0 yX12_feed cX12_feed 4 (some .int) 0 [(0, .ref (ad_ G 0)), (1, .long v1)] [] S post := by
  unfold fX12_feed at h
  refine r_aload_n 0 dX12_feed_0 rfl rfl ?_
  refine r_getI (k := 0) (j := 36) sM_0 rfl fl_X12_267 dX12_feed_1 ?_
  refine r_bipush (v := 8) dX12_feed_4 rfl ?_
  refine r_iadd dX12_feed_6 ?_
  refine r_sipush (v := 200) dX12_feed_7 rfl ?_
  refine r_icmp_le 16 dX12_feed_10 (by decide) (fun c28 => ?_) (fun c28 => ?_)
  · rw [if_pos c28] at h
    refine r_bipush (v := 56) dX12_feed_16 rfl ?_
    refine r_istore_n (i := 3) [(0, .ref (ad_ G 0)), (1, .long v1), (3, .int 56)] [1, 2, 0] dX12_feed_18 rfl (by decide) rfl ?_
    have key : ∀ ex, lp (fun w21 : Int32 × St => bX12_feed_19 v1 w21.1 w21.2) 5000 (56, S) = some ex → (fun u27 : St => Rn G shM 0 yX12_feed cX12_feed 4 (some .int) 56 [(0, .ref (ad_ G 0))] [] u27 post) ex → Rn G shM 0 yX12_feed cX12_feed 4 (some .int) 19 [(0, .ref (ad_ G 0)), (1, .long v1), (3, .int 56)] [] S post := by
      intro ex hl hx
      refine lp_rule (body := (fun w21 : Int32 × St => bX12_feed_19 v1 w21.1 w21.2)) (R := (fun w21 : Int32 × St => Rn G shM 0 yX12_feed cX12_feed 4 (some .int) 19 [(0, .ref (ad_ G 0)), (1, .long v1), (3, .int w21.1)] [] w21.2 post)) (X := (fun u27 : St => Rn G shM 0 yX12_feed cX12_feed 4 (some .int) 56 [(0, .ref (ad_ G 0))] [] u27 post)) ?_ 5000 (56, S) ex hl hx
      intro w21 oo h hB hX
      obtain ⟨v22, S23⟩ := w21
      replace h : bX12_feed_19 v1 v22 S23 = some oo := h
      unfold bX12_feed_19 at h
      show Rn G shM 0 yX12_feed cX12_feed 4 (some .int) 19 [(0, .ref (ad_ G 0)), (1, .long v1), (3, .int v22)] [] S23 post
      refine r_iload_n 2 dX12_feed_19 rfl rfl ?_
      refine r_if_lt 56 dX12_feed_20 (by decide) (fun c26 => ?_) (fun c26 => ?_)
      · rw [if_pos c26] at h
        refine r_sub [(0, .ref (ad_ G 0))] [0] rfl ?_
        obtain rfl := Option.some.inj h
        exact hX S23 rfl
      · rw [if_neg c26] at h
        refine r_aload_n 0 dX12_feed_23 rfl rfl ?_
        refine r_getC (k := 0) (j := 35) (r := 28) sM_0 rfl fl_X12_100 dX12_feed_24 ?_
        refine r_aload_n 0 dX12_feed_27 rfl rfl ?_
        refine r_getI (k := 0) (j := 36) sM_0 rfl fl_X12_267 dX12_feed_28 ?_
        refine r_lload_n 1 dX12_feed_31 rfl rfl ?_
        refine r_iload_n 2 dX12_feed_32 rfl rfl ?_
        refine r_lshr dX12_feed_33 ?_
        refine r_ldc2 kl_X12_243 dX12_feed_34 ?_
        refine r_land dX12_feed_37 ?_
        refine r_l2i dX12_feed_38 ?_
        obtain ⟨S24, hS24, h⟩ := b1_some h
        refine r_iastore sM_28 hS24 dX12_feed_39 ?_
        refine r_aload_n 0 dX12_feed_40 rfl rfl ?_
        refine r_dup dX12_feed_41 rfl ?_
        refine r_getI (k := 0) (j := 36) sM_0 rfl fl_X12_267 dX12_feed_42 ?_
        refine r_iconst (v := 1) dX12_feed_45 rfl ?_
        refine r_iadd dX12_feed_46 ?_
        obtain ⟨S25, hS25, h⟩ := b1_some h
        refine r_setI (k := 0) (j := 36) sM_0 rfl pf_X12_267 hS25 dX12_feed_47 ?_
        refine r_iinc (v := v22 + (-8)) [(0, .ref (ad_ G 0)), (1, .long v1), (3, .int (v22 + (-8)))] 2 [1, 2, 0] dX12_feed_50 rfl rfl (by decide) rfl ?_
        refine r_goto 19 dX12_feed_53 (by decide) ?_
        obtain rfl := Option.some.inj h
        exact hB (v22 + (-8), S25) rfl
    obtain ⟨u27, hu27, h⟩ := b1_some h
    refine key u27 hu27 ?_
    show Rn G shM 0 yX12_feed cX12_feed 4 (some .int) 56 [(0, .ref (ad_ G 0))] [] u27 post
    refine r_aload_n 0 dX12_feed_56 rfl rfl ?_
    refine r_getI (k := 0) (j := 36) sM_0 rfl fl_X12_267 dX12_feed_57 ?_
    obtain rfl := Option.some.inj h
    exact r_ireturn rfl dX12_feed_60 (hp)
  · rw [if_neg c28] at h
    refine r_bipush (v := (-3)) dX12_feed_13 rfl ?_
    obtain rfl := Option.some.inj h
    exact r_ireturn rfl dX12_feed_15 (hp)
theorem mX12_feed {G : Gx} {S : St} {v1 : Int64} {o : (Int32 × St)}  (h : fX12_feed S v1 = some o) : MR_ G shM 0 yX12_feed cX12_feed 4 (some .int) [.ref (ad_ G 0), .long v1] S (PI_ o.1 o.2) := MR_of cb_X12_feed (Nat.le_of_ble_eq_true rfl) [(0, .ref (ad_ G 0)), (1, .long v1)] rfl (tX12_feed  h ⟨rfl, rfl⟩)
set_option maxRecDepth 100000 in
set_option maxHeartbeats 4000000 in
theorem tX12_end {G : Gx} {post : Option Value → St → Prop} {S : St} {v1 : Int32} {o : (Int32 × St)}  (h : fX12_end S v1 = some o) (hp : post (some (.int o.1)) o.2) : Rn G shM 1 yX12_end cX12_end 3 (some .int) 0 [(0, .ref (ad_ G 0)), (1, .int v1)] [] S post := by
  unfold fX12_end at h
  refine r_iload_n 1 dX12_end_0 rfl rfl ?_
  refine r_i2l dX12_end_1 ?_
  refine r_lconst (v := 0) dX12_end_2 rfl ?_
  refine r_aload_n 0 dX12_end_3 rfl rfl ?_
  refine r_getI (k := 0) (j := 36) sM_0 rfl fl_X12_267 dX12_end_4 ?_
  refine r_i2l dX12_end_7 ?_
  obtain ⟨x21, hx21, h⟩ := b1_some h
  refine r_callSi (rest := []) (by omega) (mX12_in hx21) cb_X12_in ml_X12_145 sm_X12_in rfl rfl (Nat.le_of_ble_eq_true rfl) dX12_end_8 ?_
  refine r_if_ne 16 dX12_end_11 (by decide) (fun c23 => ?_) (fun c23 => ?_)
  · rw [if_neg c23] at h
    refine r_aload_n 0 dX12_end_16 rfl rfl ?_
    refine r_getI (k := 0) (j := 36) sM_0 rfl fl_X12_267 dX12_end_17 ?_
    refine r_istore_n (i := 2) [(0, .ref (ad_ G 0)), (1, .int v1), (2, .int (gI_ S 0 36))] [1, 2, 0] dX12_end_20 rfl (by decide) rfl ?_
    refine r_aload_n 0 dX12_end_21 rfl rfl ?_
    refine r_iload_n 1 dX12_end_22 rfl rfl ?_
    obtain ⟨S22, hS22, h⟩ := b1_some h
    refine r_setI (k := 0) (j := 36) sM_0 rfl pf_X12_267 hS22 dX12_end_23 ?_
    refine r_iload_n 2 dX12_end_26 rfl rfl ?_
    obtain rfl := Option.some.inj h
    exact r_ireturn rfl dX12_end_27 (hp)
  · rw [if_pos c23] at h
    refine r_iconst (v := (-1)) dX12_end_14 rfl ?_
    obtain rfl := Option.some.inj h
    exact r_ireturn rfl dX12_end_15 (hp)
theorem mX12_end {G : Gx} {S : St} {v1 : Int32} {o : (Int32 × St)}  (h : fX12_end S v1 = some o) : MR_ G shM 1 yX12_end cX12_end 3 (some .int) [.ref (ad_ G 0), .int v1] S (PI_ o.1 o.2) := MR_of cb_X12_end (Nat.le_of_ble_eq_true rfl) [(0, .ref (ad_ G 0)), (1, .int v1)] rfl (tX12_end  h ⟨rfl, rfl⟩)
set_option maxRecDepth 100000 in
set_option maxHeartbeats 4000000 in
theorem tX12_wants {G : Gx} {post : Option Value → St → Prop} {S : St} {v1 : Int32} {v2 : Int32} {o : St}  (h : fX12_wants S v1 v2 = some o) (hp : post none o) : Rn G shM 0 yX12_wants cX12_wants 3 none 0 [(0, .ref (ad_ G 0)), (1, .int v1), (2, .int v2)] [] S post := by
  unfold fX12_wants at h
  refine r_iload_n 1 dX12_wants_0 rfl rfl ?_
  refine r_if_ne 24 dX12_wants_1 (by decide) (fun c24 => ?_) (fun c24 => ?_)
  · rw [if_neg c24] at h
    obtain rfl := Option.some.inj h
    exact r_return rfl dX12_wants_24 (hp)
  · rw [if_pos c24] at h
    refine r_aload_n 0 dX12_wants_4 rfl rfl ?_
    refine r_getI (k := 0) (j := 41) sM_0 rfl fl_X12_270 dX12_wants_5 ?_
    refine r_if_ne 24 dX12_wants_8 (by decide) (fun c23 => ?_) (fun c23 => ?_)
    · rw [if_neg c23] at h
      obtain rfl := Option.some.inj h
      exact r_return rfl dX12_wants_24 (hp)
    · rw [if_pos c23] at h
      refine r_aload_n 0 dX12_wants_11 rfl rfl ?_
      refine r_iload_n 2 dX12_wants_12 rfl rfl ?_
      obtain ⟨S21, hS21, h⟩ := b1_some h
      refine r_setI (k := 0) (j := 41) sM_0 rfl pf_X12_270 hS21 dX12_wants_13 ?_
      refine r_aload_n 0 dX12_wants_16 rfl rfl ?_
      refine r_aload_n 0 dX12_wants_17 rfl rfl ?_
      refine r_getI (k := 0) (j := 38) sM_0 rfl fl_X12_273 dX12_wants_18 ?_
      obtain ⟨S22, hS22, h⟩ := b1_some h
      refine r_setI (k := 0) (j := 42) sM_0 rfl pf_X12_276 hS22 dX12_wants_21 ?_
      obtain rfl := Option.some.inj h
      exact r_return rfl dX12_wants_24 (hp)
theorem mX12_wants {G : Gx} {S : St} {v1 : Int32} {v2 : Int32} {o : St}  (h : fX12_wants S v1 v2 = some o) : MR_ G shM 0 yX12_wants cX12_wants 3 none [.ref (ad_ G 0), .int v1, .int v2] S (PV_ o) := MR_of cb_X12_wants (Nat.le_of_ble_eq_true rfl) [(0, .ref (ad_ G 0)), (1, .int v1), (2, .int v2)] rfl (tX12_wants  h ⟨rfl, rfl⟩)
set_option maxRecDepth 100000 in
set_option maxHeartbeats 4000000 in
theorem tX12_look {G : Gx} {post : Option Value → St → Prop} {S : St} {v1 : Int32} {o : Int32}  (h : fX12_look S v1 = some o) (hp : post (some (.int o)) S) : Rn G shM 0 yX12_look cX12_look 2 (some .int) 0 [(0, .ref (ad_ G 0)), (1, .int v1)] [] S post := by
  unfold fX12_look at h
  refine r_iload_n 1 dX12_look_0 rfl rfl ?_
  refine r_aload_n 0 dX12_look_1 rfl rfl ?_
  refine r_getI (k := 0) (j := 36) sM_0 rfl fl_X12_267 dX12_look_2 ?_
  refine r_icmp_ge 17 dX12_look_5 (by decide) (fun c22 => ?_) (fun c22 => ?_)
  · rw [if_pos c22] at h
    refine r_iconst (v := (-1)) dX12_look_17 rfl ?_
    obtain rfl := Option.some.inj h
    exact r_ireturn rfl dX12_look_18 (hp)
  · rw [if_neg c22] at h
    refine r_aload_n 0 dX12_look_8 rfl rfl ?_
    refine r_getC (k := 0) (j := 35) (r := 28) sM_0 rfl fl_X12_100 dX12_look_9 ?_
    refine r_iload_n 1 dX12_look_12 rfl rfl ?_
    obtain ⟨x21, hx21, h⟩ := b1_some h
    refine r_iaload sM_28 hx21 dX12_look_13 ?_
    refine r_goto 18 dX12_look_14 (by decide) ?_
    obtain rfl := Option.some.inj h
    exact r_ireturn rfl dX12_look_18 (hp)
theorem mX12_look {G : Gx} {S : St} {v1 : Int32} {o : Int32}  (h : fX12_look S v1 = some o) : MR_ G shM 0 yX12_look cX12_look 2 (some .int) [.ref (ad_ G 0), .int v1] S (PI_ o S) := MR_of cb_X12_look (Nat.le_of_ble_eq_true rfl) [(0, .ref (ad_ G 0)), (1, .int v1)] rfl (tX12_look  h ⟨rfl, rfl⟩)
set_option maxRecDepth 100000 in
set_option maxHeartbeats 4000000 in
theorem tX12_is {G : Gx} {post : Option Value → St → Prop} {S : St} {v1 : Int32} {v2 : Int32} {v3 : Int32} {v4 : Int32} {v5 : Int32} {v6 : Int32} {o : Int32}  (h : fX12_is S v1 v2 v3 v4 v5 v6 = some o) (hp : post (some (.int o)) S) : Rn G shM 1 yX12_is cX12_is 8 (some .boolean) 0 [(0, .ref (ad_ G 0)), (1, .int v1), (2, .int v2), (3, .int v3), (4, .int v4), (5, .int v5), (6, .int v6)] [] S post := by
  unfold fX12_is at h
  refine r_iload 4 dX12_is_0 rfl ?_
  obtain ⟨w21, hw21, h⟩ := b1_some h
  have hJ : Rn G shM 1 yX12_is cX12_is 8 (some .boolean) 20 [(0, .ref (ad_ G 0)), (1, .int v1), (2, .int v2), (3, .int v3), (4, .int v4), (5, .int v5), (6, .int v6)] [.int w21] S post := by
    refine r_istore (i := 7) [(0, .ref (ad_ G 0)), (1, .int v1), (2, .int v2), (3, .int v3), (4, .int v4), (5, .int v5), (6, .int v6), (7, .int w21)] [1, 2, 3, 4, 5, 6, 7, 0] dX12_is_20 (by decide) rfl ?_
    refine r_aload_n 0 dX12_is_22 rfl rfl ?_
    refine r_getI (k := 0) (j := 37) sM_0 rfl fl_X12_279 dX12_is_23 ?_
    refine r_aload_n 0 dX12_is_26 rfl rfl ?_
    refine r_getI (k := 0) (j := 38) sM_0 rfl fl_X12_273 dX12_is_27 ?_
    refine r_isub dX12_is_30 ?_
    refine r_iload 7 dX12_is_31 rfl ?_
    refine r_icmp_ne 138 dX12_is_33 (by decide) (fun c38 => ?_) (fun c38 => ?_)
    · rw [if_neg c38] at h
      refine r_iconst (v := 0) dX12_is_138 rfl ?_
      obtain rfl := Option.some.inj h
      exact r_zreturn rfl (by decide) dX12_is_139 (hp)
    · rw [if_pos c38] at h
      refine r_aload_n 0 dX12_is_36 rfl rfl ?_
      refine r_aload_n 0 dX12_is_37 rfl rfl ?_
      refine r_getI (k := 0) (j := 38) sM_0 rfl fl_X12_273 dX12_is_38 ?_
      obtain ⟨x22, hx22, h⟩ := b1_some h
      refine r_callVi (k := 0) (rest := []) (by omega) (mX12_look hx22) sM_0 rfl rfl cb_X12_look ml_X12_282 im_X12_look se_X12_look rfl rfl (Nat.le_of_ble_eq_true rfl) dX12_is_41 ?_
      refine r_iload_n 1 dX12_is_44 rfl rfl ?_
      refine r_icmp_ne 138 dX12_is_45 (by decide) (fun c37 => ?_) (fun c37 => ?_)
      · rw [if_neg c37] at h
        refine r_iconst (v := 0) dX12_is_138 rfl ?_
        obtain rfl := Option.some.inj h
        exact r_zreturn rfl (by decide) dX12_is_139 (hp)
      · rw [if_pos c37] at h
        refine r_aload_n 0 dX12_is_48 rfl rfl ?_
        refine r_aload_n 0 dX12_is_49 rfl rfl ?_
        refine r_getI (k := 0) (j := 38) sM_0 rfl fl_X12_273 dX12_is_50 ?_
        refine r_iconst (v := 1) dX12_is_53 rfl ?_
        refine r_iadd dX12_is_54 ?_
        obtain ⟨x23, hx23, h⟩ := b1_some h
        refine r_callVi (k := 0) (rest := []) (by omega) (mX12_look hx23) sM_0 rfl rfl cb_X12_look ml_X12_282 im_X12_look se_X12_look rfl rfl (Nat.le_of_ble_eq_true rfl) dX12_is_55 ?_
        refine r_iload_n 2 dX12_is_58 rfl rfl ?_
        refine r_icmp_ne 138 dX12_is_59 (by decide) (fun c36 => ?_) (fun c36 => ?_)
        · rw [if_neg c36] at h
          refine r_iconst (v := 0) dX12_is_138 rfl ?_
          obtain rfl := Option.some.inj h
          exact r_zreturn rfl (by decide) dX12_is_139 (hp)
        · rw [if_pos c36] at h
          refine r_aload_n 0 dX12_is_62 rfl rfl ?_
          refine r_aload_n 0 dX12_is_63 rfl rfl ?_
          refine r_getI (k := 0) (j := 38) sM_0 rfl fl_X12_273 dX12_is_64 ?_
          refine r_iconst (v := 2) dX12_is_67 rfl ?_
          refine r_iadd dX12_is_68 ?_
          obtain ⟨x24, hx24, h⟩ := b1_some h
          refine r_callVi (k := 0) (rest := []) (by omega) (mX12_look hx24) sM_0 rfl rfl cb_X12_look ml_X12_282 im_X12_look se_X12_look rfl rfl (Nat.le_of_ble_eq_true rfl) dX12_is_69 ?_
          refine r_iload_n 3 dX12_is_72 rfl rfl ?_
          refine r_icmp_ne 138 dX12_is_73 (by decide) (fun c35 => ?_) (fun c35 => ?_)
          · rw [if_neg c35] at h
            refine r_iconst (v := 0) dX12_is_138 rfl ?_
            obtain rfl := Option.some.inj h
            exact r_zreturn rfl (by decide) dX12_is_139 (hp)
          · rw [if_pos c35] at h
            refine r_iload 7 dX12_is_76 rfl ?_
            refine r_iconst (v := 4) dX12_is_78 rfl ?_
            have key : ∀ ex, ((if w21 < 4 then some (.inl ()) else b1 (fX12_look S ((gI_ S 0 38) + 3)) fun x29 => (if x29 = v4 then b1 (fX12_look S ((gI_ S 0 38) + 4)) fun x30 => (if x30 = v5 then some (.inl ()) else some (.inr 0)) else some (.inr 0))) : Option ((Unit) ⊕ Int32)) = some ex → (∀ w25, ex = .inl w25 → Rn G shM 1 yX12_is cX12_is 8 (some .boolean) 112 [(0, .ref (ad_ G 0)), (6, .int v6), (7, .int w21)] [] S post) → (∀ r34, ex = .inr r34 → post (some (.int r34)) S) → Rn G shM 1 yX12_is cX12_is 8 (some .boolean) 79 [(0, .ref (ad_ G 0)), (1, .int v1), (2, .int v2), (3, .int v3), (4, .int v4), (5, .int v5), (6, .int v6), (7, .int w21)] [.int 4, .int w21] S post := by
              intro ex h hJ0 hR
              refine r_icmp_lt 112 dX12_is_79 (by decide) (fun c33 => ?_) (fun c33 => ?_)
              · rw [if_pos c33] at h
                refine r_sub [(0, .ref (ad_ G 0)), (6, .int v6), (7, .int w21)] [0, 6, 7] rfl ?_
                obtain rfl := Option.some.inj h
                exact hJ0 _ rfl
              · rw [if_neg c33] at h
                refine r_aload_n 0 dX12_is_82 rfl rfl ?_
                refine r_aload_n 0 dX12_is_83 rfl rfl ?_
                refine r_getI (k := 0) (j := 38) sM_0 rfl fl_X12_273 dX12_is_84 ?_
                refine r_iconst (v := 3) dX12_is_87 rfl ?_
                refine r_iadd dX12_is_88 ?_
                obtain ⟨x29, hx29, h⟩ := b1_some h
                refine r_callVi (k := 0) (rest := []) (by omega) (mX12_look hx29) sM_0 rfl rfl cb_X12_look ml_X12_282 im_X12_look se_X12_look rfl rfl (Nat.le_of_ble_eq_true rfl) dX12_is_89 ?_
                refine r_iload 4 dX12_is_92 rfl ?_
                refine r_icmp_ne 138 dX12_is_94 (by decide) (fun c32 => ?_) (fun c32 => ?_)
                · rw [if_neg c32] at h
                  refine r_iconst (v := 0) dX12_is_138 rfl ?_
                  obtain rfl := Option.some.inj h
                  exact r_zreturn rfl (by decide) dX12_is_139 (hR 0 rfl)
                · rw [if_pos c32] at h
                  refine r_aload_n 0 dX12_is_97 rfl rfl ?_
                  refine r_aload_n 0 dX12_is_98 rfl rfl ?_
                  refine r_getI (k := 0) (j := 38) sM_0 rfl fl_X12_273 dX12_is_99 ?_
                  refine r_iconst (v := 4) dX12_is_102 rfl ?_
                  refine r_iadd dX12_is_103 ?_
                  obtain ⟨x30, hx30, h⟩ := b1_some h
                  refine r_callVi (k := 0) (rest := []) (by omega) (mX12_look hx30) sM_0 rfl rfl cb_X12_look ml_X12_282 im_X12_look se_X12_look rfl rfl (Nat.le_of_ble_eq_true rfl) dX12_is_104 ?_
                  refine r_iload 5 dX12_is_107 rfl ?_
                  refine r_icmp_ne 138 dX12_is_109 (by decide) (fun c31 => ?_) (fun c31 => ?_)
                  · rw [if_neg c31] at h
                    refine r_iconst (v := 0) dX12_is_138 rfl ?_
                    obtain rfl := Option.some.inj h
                    exact r_zreturn rfl (by decide) dX12_is_139 (hR 0 rfl)
                  · rw [if_pos c31] at h
                    refine r_sub [(0, .ref (ad_ G 0)), (6, .int v6), (7, .int w21)] [0, 6, 7] rfl ?_
                    obtain rfl := Option.some.inj h
                    exact hJ0 _ rfl
            rcases bs_some h with ⟨w25, hw25, h⟩ | ⟨r34, hw25, h⟩
            · refine key _ hw25 (fun z ez => ?_) (fun z ez => by cases ez)
              cases ez
              refine r_iload 2 dX12_is_112 rfl ?_
              refine r_bipush (v := 6) dX12_is_114 rfl ?_
              refine r_icmp_lt 134 dX12_is_116 (by decide) (fun c28 => ?_) (fun c28 => ?_)
              · rw [if_pos c28] at h
                refine r_iconst (v := 1) dX12_is_134 rfl ?_
                refine r_goto 139 dX12_is_135 (by decide) ?_
                obtain rfl := Option.some.inj h
                exact r_zreturn rfl (by decide) dX12_is_139 (hp)
              · rw [if_neg c28] at h
                refine r_aload_n 0 dX12_is_119 rfl rfl ?_
                refine r_aload_n 0 dX12_is_120 rfl rfl ?_
                refine r_getI (k := 0) (j := 38) sM_0 rfl fl_X12_273 dX12_is_121 ?_
                refine r_iconst (v := 5) dX12_is_124 rfl ?_
                refine r_iadd dX12_is_125 ?_
                obtain ⟨x26, hx26, h⟩ := b1_some h
                refine r_callVi (k := 0) (rest := []) (by omega) (mX12_look hx26) sM_0 rfl rfl cb_X12_look ml_X12_282 im_X12_look se_X12_look rfl rfl (Nat.le_of_ble_eq_true rfl) dX12_is_126 ?_
                refine r_iload 1 dX12_is_129 rfl ?_
                refine r_icmp_ne 138 dX12_is_131 (by decide) (fun c27 => ?_) (fun c27 => ?_)
                · rw [if_neg c27] at h
                  refine r_iconst (v := 0) dX12_is_138 rfl ?_
                  obtain rfl := Option.some.inj h
                  exact r_zreturn rfl (by decide) dX12_is_139 (hp)
                · rw [if_pos c27] at h
                  refine r_iconst (v := 1) dX12_is_134 rfl ?_
                  refine r_goto 139 dX12_is_135 (by decide) ?_
                  obtain rfl := Option.some.inj h
                  exact r_zreturn rfl (by decide) dX12_is_139 (hp)
            · refine key _ hw25 (fun z ez => by cases ez) (fun z ez => ?_)
              cases ez
              obtain rfl := Option.some.inj h
              exact hp
  clear h
  replace h := hw21
  refine r_if_ne 9 dX12_is_2 (by decide) (fun c40 => ?_) (fun c40 => ?_)
  · rw [if_neg c40] at h
    refine r_iload 6 dX12_is_9 rfl ?_
    refine r_if_ne 18 dX12_is_11 (by decide) (fun c39 => ?_) (fun c39 => ?_)
    · rw [if_neg c39] at h
      refine r_bipush (v := 6) dX12_is_18 rfl ?_
      obtain rfl := Option.some.inj h
      exact hJ
    · rw [if_pos c39] at h
      refine r_iconst (v := 5) dX12_is_14 rfl ?_
      refine r_goto 20 dX12_is_15 (by decide) ?_
      obtain rfl := Option.some.inj h
      exact hJ
  · rw [if_pos c40] at h
    refine r_iconst (v := 3) dX12_is_5 rfl ?_
    refine r_goto 20 dX12_is_6 (by decide) ?_
    obtain rfl := Option.some.inj h
    exact hJ
theorem mX12_is {G : Gx} {S : St} {v1 : Int32} {v2 : Int32} {v3 : Int32} {v4 : Int32} {v5 : Int32} {v6 : Int32} {o : Int32}  (h : fX12_is S v1 v2 v3 v4 v5 v6 = some o) : MR_ G shM 1 yX12_is cX12_is 8 (some .boolean) [.ref (ad_ G 0), .int v1, .int v2, .int v3, .int v4, .int v5, .int v6] S (PI_ o S) := MR_of cb_X12_is (Nat.le_of_ble_eq_true rfl) [(0, .ref (ad_ G 0)), (1, .int v1), (2, .int v2), (3, .int v3), (4, .int v4), (5, .int v5), (6, .int v6)] rfl (tX12_is  h ⟨rfl, rfl⟩)
set_option maxRecDepth 100000 in
set_option maxHeartbeats 4000000 in
theorem tX12_wordNow {G : Gx} {post : Option Value → St → Prop} {S : St} {o : Int32}  (h : fX12_wordNow S = some o) (hp : post (some (.int o)) S) : Rn G shM 2 yX12_wordNow cX12_wordNow 1 (some .int) 0 [(0, .ref (ad_ G 0))] [] S post := by
  unfold fX12_wordNow at h
  refine r_aload_n 0 dX12_wordNow_0 rfl rfl ?_
  refine r_bipush (v := 115) dX12_wordNow_1 rfl ?_
  refine r_bipush (v := 116) dX12_wordNow_3 rfl ?_
  refine r_bipush (v := 97) dX12_wordNow_5 rfl ?_
  refine r_bipush (v := 109) dX12_wordNow_7 rfl ?_
  refine r_bipush (v := 112) dX12_wordNow_9 rfl ?_
  refine r_iconst (v := 0) dX12_wordNow_11 rfl ?_
  obtain ⟨x21, hx21, h⟩ := b1_some h
  refine r_callVi (k := 0) (rest := []) (by omega) (mX12_is hx21) sM_0 rfl rfl cb_X12_is ml_X12_285 im_X12_is se_X12_is rfl rfl (Nat.le_of_ble_eq_true rfl) dX12_wordNow_12 ?_
  refine r_if_eq 20 dX12_wordNow_15 (by decide) (fun c30 => ?_) (fun c30 => ?_)
  · rw [if_pos c30] at h
    refine r_aload_n 0 dX12_wordNow_20 rfl rfl ?_
    refine r_bipush (v := 98) dX12_wordNow_21 rfl ?_
    refine r_bipush (v := 97) dX12_wordNow_23 rfl ?_
    refine r_bipush (v := 114) dX12_wordNow_25 rfl ?_
    refine r_iconst (v := 0) dX12_wordNow_27 rfl ?_
    refine r_iconst (v := 0) dX12_wordNow_28 rfl ?_
    refine r_iconst (v := 0) dX12_wordNow_29 rfl ?_
    obtain ⟨x22, hx22, h⟩ := b1_some h
    refine r_callVi (k := 0) (rest := []) (by omega) (mX12_is hx22) sM_0 rfl rfl cb_X12_is ml_X12_285 im_X12_is se_X12_is rfl rfl (Nat.le_of_ble_eq_true rfl) dX12_wordNow_30 ?_
    refine r_if_eq 38 dX12_wordNow_33 (by decide) (fun c29 => ?_) (fun c29 => ?_)
    · rw [if_pos c29] at h
      refine r_aload_n 0 dX12_wordNow_38 rfl rfl ?_
      refine r_bipush (v := 108) dX12_wordNow_39 rfl ?_
      refine r_bipush (v := 105) dX12_wordNow_41 rfl ?_
      refine r_bipush (v := 109) dX12_wordNow_43 rfl ?_
      refine r_bipush (v := 105) dX12_wordNow_45 rfl ?_
      refine r_bipush (v := 116) dX12_wordNow_47 rfl ?_
      refine r_iconst (v := 0) dX12_wordNow_49 rfl ?_
      obtain ⟨x23, hx23, h⟩ := b1_some h
      refine r_callVi (k := 0) (rest := []) (by omega) (mX12_is hx23) sM_0 rfl rfl cb_X12_is ml_X12_285 im_X12_is se_X12_is rfl rfl (Nat.le_of_ble_eq_true rfl) dX12_wordNow_50 ?_
      refine r_if_eq 58 dX12_wordNow_53 (by decide) (fun c28 => ?_) (fun c28 => ?_)
      · rw [if_pos c28] at h
        refine r_aload_n 0 dX12_wordNow_58 rfl rfl ?_
        refine r_bipush (v := 108) dX12_wordNow_59 rfl ?_
        refine r_bipush (v := 101) dX12_wordNow_61 rfl ?_
        refine r_bipush (v := 97) dX12_wordNow_63 rfl ?_
        refine r_bipush (v := 115) dX12_wordNow_65 rfl ?_
        refine r_bipush (v := 116) dX12_wordNow_67 rfl ?_
        refine r_iconst (v := 0) dX12_wordNow_69 rfl ?_
        obtain ⟨x24, hx24, h⟩ := b1_some h
        refine r_callVi (k := 0) (rest := []) (by omega) (mX12_is hx24) sM_0 rfl rfl cb_X12_is ml_X12_285 im_X12_is se_X12_is rfl rfl (Nat.le_of_ble_eq_true rfl) dX12_wordNow_70 ?_
        refine r_if_eq 78 dX12_wordNow_73 (by decide) (fun c27 => ?_) (fun c27 => ?_)
        · rw [if_pos c27] at h
          refine r_aload_n 0 dX12_wordNow_78 rfl rfl ?_
          refine r_bipush (v := 115) dX12_wordNow_79 rfl ?_
          refine r_bipush (v := 101) dX12_wordNow_81 rfl ?_
          refine r_bipush (v := 99) dX12_wordNow_83 rfl ?_
          refine r_bipush (v := 111) dX12_wordNow_85 rfl ?_
          refine r_bipush (v := 110) dX12_wordNow_87 rfl ?_
          refine r_bipush (v := 100) dX12_wordNow_89 rfl ?_
          obtain ⟨x25, hx25, h⟩ := b1_some h
          refine r_callVi (k := 0) (rest := []) (by omega) (mX12_is hx25) sM_0 rfl rfl cb_X12_is ml_X12_285 im_X12_is se_X12_is rfl rfl (Nat.le_of_ble_eq_true rfl) dX12_wordNow_91 ?_
          refine r_if_eq 101 dX12_wordNow_94 (by decide) (fun c26 => ?_) (fun c26 => ?_)
          · rw [if_pos c26] at h
            refine r_bipush (v := (-4)) dX12_wordNow_101 rfl ?_
            obtain rfl := Option.some.inj h
            exact r_ireturn rfl dX12_wordNow_103 (hp)
          · rw [if_neg c26] at h
            refine r_iconst (v := 4) dX12_wordNow_97 rfl ?_
            refine r_goto 103 dX12_wordNow_98 (by decide) ?_
            obtain rfl := Option.some.inj h
            exact r_ireturn rfl dX12_wordNow_103 (hp)
        · rw [if_neg c27] at h
          refine r_iconst (v := 3) dX12_wordNow_76 rfl ?_
          obtain rfl := Option.some.inj h
          exact r_ireturn rfl dX12_wordNow_77 (hp)
      · rw [if_neg c28] at h
        refine r_iconst (v := 2) dX12_wordNow_56 rfl ?_
        obtain rfl := Option.some.inj h
        exact r_ireturn rfl dX12_wordNow_57 (hp)
    · rw [if_neg c29] at h
      refine r_iconst (v := 1) dX12_wordNow_36 rfl ?_
      obtain rfl := Option.some.inj h
      exact r_ireturn rfl dX12_wordNow_37 (hp)
  · rw [if_neg c30] at h
    refine r_iconst (v := 0) dX12_wordNow_18 rfl ?_
    obtain rfl := Option.some.inj h
    exact r_ireturn rfl dX12_wordNow_19 (hp)
theorem mX12_wordNow {G : Gx} {S : St} {o : Int32}  (h : fX12_wordNow S = some o) : MR_ G shM 2 yX12_wordNow cX12_wordNow 1 (some .int) [.ref (ad_ G 0)] S (PI_ o S) := MR_of cb_X12_wordNow (Nat.le_of_ble_eq_true rfl) [(0, .ref (ad_ G 0))] rfl (tX12_wordNow  h ⟨rfl, rfl⟩)
set_option maxRecDepth 100000 in
set_option maxHeartbeats 4000000 in
theorem tX12_next {G : Gx} {post : Option Value → St → Prop} {S : St} {o : St}  (h : fX12_next S = some o) (hp : post none o) : Rn G shM 3 yX12_next cX12_next 2 none 0 [(0, .ref (ad_ G 0))] [] S post := by
  unfold fX12_next at h
  refine r_aload_n 0 dX12_next_0 rfl rfl ?_
  refine r_aload_n 0 dX12_next_1 rfl rfl ?_
  refine r_getI (k := 0) (j := 37) sM_0 rfl fl_X12_279 dX12_next_2 ?_
  obtain ⟨x21, hx21, h⟩ := b1_some h
  refine r_callVi (k := 0) (rest := []) (by omega) (mX12_look hx21) sM_0 rfl rfl cb_X12_look ml_X12_282 im_X12_look se_X12_look rfl rfl (Nat.le_of_ble_eq_true rfl) dX12_next_5 ?_
  refine r_bipush (v := 32) dX12_next_8 rfl ?_
  refine r_icmp_ne 26 dX12_next_10 (by decide) (fun c123 => ?_) (fun c123 => ?_)
  · rw [if_neg c123] at h
    refine r_aload_n 0 dX12_next_26 rfl rfl ?_
    refine r_aload_n 0 dX12_next_27 rfl rfl ?_
    refine r_getI (k := 0) (j := 37) sM_0 rfl fl_X12_279 dX12_next_28 ?_
    obtain ⟨S22, hS22, h⟩ := b1_some h
    refine r_setI (k := 0) (j := 38) sM_0 rfl pf_X12_273 hS22 dX12_next_31 ?_
    refine r_aload_n 0 dX12_next_34 rfl rfl ?_
    refine r_aload_n 0 dX12_next_35 rfl rfl ?_
    refine r_getI (k := 0) (j := 37) sM_0 rfl fl_X12_279 dX12_next_36 ?_
    obtain ⟨x23, hx23, h⟩ := b1_some h
    refine r_callVi (k := 0) (rest := []) (by omega) (mX12_look hx23) sM_0 rfl rfl cb_X12_look ml_X12_282 im_X12_look se_X12_look rfl rfl (Nat.le_of_ble_eq_true rfl) dX12_next_39 ?_
    refine r_istore_n (i := 1) [(0, .ref (ad_ G 0)), (1, .int x23)] [1, 0] dX12_next_42 rfl (by decide) rfl ?_
    refine r_iload_n 1 dX12_next_43 rfl rfl ?_
    refine r_if_ge 55 dX12_next_44 (by decide) (fun c68 => ?_) (fun c68 => ?_)
    · rw [if_pos c68] at h
      refine r_iload_n 1 dX12_next_55 rfl rfl ?_
      refine r_i2l dX12_next_56 ?_
      refine r_ldc2 kl_X12_291 dX12_next_57 ?_
      refine r_ldc2 kl_X12_293 dX12_next_60 ?_
      obtain ⟨x24, hx24, h⟩ := b1_some h
      refine r_callSi (rest := []) (by omega) (mX12_in hx24) cb_X12_in ml_X12_145 sm_X12_in rfl rfl (Nat.le_of_ble_eq_true rfl) dX12_next_63 ?_
      refine r_if_eq 138 dX12_next_66 (by decide) (fun c66 => ?_) (fun c66 => ?_)
      · rw [if_pos c66] at h
        refine r_iload_n 1 dX12_next_138 rfl rfl ?_
        refine r_i2l dX12_next_139 ?_
        refine r_ldc2 kl_X12_305 dX12_next_140 ?_
        refine r_ldc2 kl_X12_307 dX12_next_143 ?_
        obtain ⟨x25, hx25, h⟩ := b1_some h
        refine r_callSi (rest := []) (by omega) (mX12_in hx25) cb_X12_in ml_X12_145 sm_X12_in rfl rfl (Nat.le_of_ble_eq_true rfl) dX12_next_146 ?_
        refine r_if_eq 178 dX12_next_149 (by decide) (fun c52 => ?_) (fun c52 => ?_)
        · rw [if_pos c52] at h
          refine r_iload_n 1 dX12_next_178 rfl rfl ?_
          refine r_i2l dX12_next_179 ?_
          refine r_ldc2 kl_X12_309 dX12_next_180 ?_
          refine r_ldc2 kl_X12_311 dX12_next_183 ?_
          obtain ⟨x26, hx26, h⟩ := b1_some h
          refine r_callSi (rest := []) (by omega) (mX12_in hx26) cb_X12_in ml_X12_145 sm_X12_in rfl rfl (Nat.le_of_ble_eq_true rfl) dX12_next_186 ?_
          refine r_if_eq 305 dX12_next_189 (by decide) (fun c48 => ?_) (fun c48 => ?_)
          · rw [if_pos c48] at h
            refine r_aload_n 0 dX12_next_305 rfl rfl ?_
            refine r_iload_n 1 dX12_next_306 rfl rfl ?_
            refine r_bipush (v := 59) dX12_next_307 rfl ?_
            obtain ⟨w27, hw27, h⟩ := b1_some h
            have hJ : Rn G shM 3 yX12_next cX12_next 2 none 317 [(0, .ref (ad_ G 0))] [.int w27, .ref (ad_ G 0)] S22 post := by
              refine r_iconst (v := 1) dX12_next_317 rfl ?_
              obtain ⟨S28, hS28, h⟩ := b1_some h
              refine r_callVv (k := 0) (rest := []) (by omega) (mX12_wants hS28) sM_0 rfl rfl cb_X12_wants ml_X12_301 im_X12_wants se_X12_wants rfl rfl (Nat.le_of_ble_eq_true rfl) dX12_next_318 ?_
              refine r_aload_n 0 dX12_next_321 rfl rfl ?_
              refine r_iconst (v := 4) dX12_next_322 rfl ?_
              obtain ⟨S29, hS29, h⟩ := b1_some h
              refine r_setI (k := 0) (j := 39) sM_0 rfl pf_X12_288 hS29 dX12_next_323 ?_
              refine r_aload_n 0 dX12_next_326 rfl rfl ?_
              refine r_dup dX12_next_327 rfl ?_
              refine r_getI (k := 0) (j := 37) sM_0 rfl fl_X12_279 dX12_next_328 ?_
              refine r_iconst (v := 1) dX12_next_331 rfl ?_
              refine r_iadd dX12_next_332 ?_
              obtain ⟨S30, hS30, h⟩ := b1_some h
              refine r_setI (k := 0) (j := 37) sM_0 rfl pf_X12_279 hS30 dX12_next_333 ?_
              obtain rfl := Option.some.inj h
              exact r_return rfl dX12_next_336 (hp)
            clear h
            replace h := hw27
            refine r_icmp_ne 316 dX12_next_309 (by decide) (fun c31 => ?_) (fun c31 => ?_)
            · rw [if_neg c31] at h
              refine r_iconst (v := 0) dX12_next_316 rfl ?_
              refine r_sub [(0, .ref (ad_ G 0))] [0] rfl ?_
              obtain rfl := Option.some.inj h
              exact hJ
            · rw [if_pos c31] at h
              refine r_iconst (v := 1) dX12_next_312 rfl ?_
              refine r_goto 317 dX12_next_313 (by decide) ?_
              refine r_sub [(0, .ref (ad_ G 0))] [0] rfl ?_
              obtain rfl := Option.some.inj h
              exact hJ
          · rw [if_neg c48] at h
            refine r_aload_n 0 dX12_next_192 rfl rfl ?_
            refine r_iconst (v := 3) dX12_next_193 rfl ?_
            obtain ⟨S32, hS32, h⟩ := b1_some h
            refine r_setI (k := 0) (j := 39) sM_0 rfl pf_X12_288 hS32 dX12_next_194 ?_
            refine r_aload_n 0 dX12_next_197 rfl rfl ?_
            refine r_iconst (v := 0) dX12_next_198 rfl ?_
            obtain ⟨S33, hS33, h⟩ := b1_some h
            refine r_setI (k := 0) (j := 40) sM_0 rfl pf_X12_298 hS33 dX12_next_199 ?_
            refine r_sub [(0, .ref (ad_ G 0))] [0] rfl ?_
            have key : ∀ ex, lp (fun w34 : St => bX12_next_202  w34) 5000 S33 = some ex → (fun u44 : St => Rn G shM 3 yX12_next cX12_next 2 none 279 [(0, .ref (ad_ G 0))] [] u44 post) ex → Rn G shM 3 yX12_next cX12_next 2 none 202 [(0, .ref (ad_ G 0))] [] S33 post := by
              intro ex hl hx
              refine lp_rule (body := (fun w34 : St => bX12_next_202  w34)) (R := (fun w34 : St => Rn G shM 3 yX12_next cX12_next 2 none 202 [(0, .ref (ad_ G 0))] [] w34 post)) (X := (fun u44 : St => Rn G shM 3 yX12_next cX12_next 2 none 279 [(0, .ref (ad_ G 0))] [] u44 post)) ?_ 5000 S33 ex hl hx
              intro w34 oo h hB hX
              obtain ⟨S35, rfl⟩ : ∃ z, z = w34 := ⟨_, rfl⟩
              replace h : bX12_next_202  S35 = some oo := h
              unfold bX12_next_202 at h
              show Rn G shM 3 yX12_next cX12_next 2 none 202 [(0, .ref (ad_ G 0))] [] S35 post
              refine r_aload_n 0 dX12_next_202 rfl rfl ?_
              refine r_aload_n 0 dX12_next_203 rfl rfl ?_
              refine r_getI (k := 0) (j := 37) sM_0 rfl fl_X12_279 dX12_next_204 ?_
              obtain ⟨x36, hx36, h⟩ := b1_some h
              refine r_callVi (k := 0) (rest := []) (by omega) (mX12_look hx36) sM_0 rfl rfl cb_X12_look ml_X12_282 im_X12_look se_X12_look rfl rfl (Nat.le_of_ble_eq_true rfl) dX12_next_207 ?_
              refine r_i2l dX12_next_210 ?_
              refine r_ldc2 kl_X12_309 dX12_next_211 ?_
              refine r_ldc2 kl_X12_311 dX12_next_214 ?_
              obtain ⟨x37, hx37, h⟩ := b1_some h
              refine r_callSi (rest := []) (by omega) (mX12_in hx37) cb_X12_in ml_X12_145 sm_X12_in rfl rfl (Nat.le_of_ble_eq_true rfl) dX12_next_217 ?_
              refine r_if_eq 279 dX12_next_220 (by decide) (fun c43 => ?_) (fun c43 => ?_)
              · rw [if_pos c43] at h
                obtain rfl := Option.some.inj h
                exact hX S35 rfl
              · rw [if_neg c43] at h
                refine r_aload_n 0 dX12_next_223 rfl rfl ?_
                refine r_aload_n 0 dX12_next_224 rfl rfl ?_
                refine r_getI (k := 0) (j := 37) sM_0 rfl fl_X12_279 dX12_next_225 ?_
                refine r_aload_n 0 dX12_next_228 rfl rfl ?_
                refine r_getI (k := 0) (j := 38) sM_0 rfl fl_X12_273 dX12_next_229 ?_
                refine r_isub dX12_next_232 ?_
                refine r_iconst (v := 4) dX12_next_233 rfl ?_
                obtain ⟨w38, hw38, h⟩ := b1_some h
                have hJ : Rn G shM 3 yX12_next cX12_next 2 none 263 [(0, .ref (ad_ G 0))] [.int w38, .ref (ad_ G 0)] S35 post := by
                  obtain ⟨S39, hS39, h⟩ := b1_some h
                  refine r_setI (k := 0) (j := 40) sM_0 rfl pf_X12_298 hS39 dX12_next_263 ?_
                  refine r_aload_n 0 dX12_next_266 rfl rfl ?_
                  refine r_dup dX12_next_267 rfl ?_
                  refine r_getI (k := 0) (j := 37) sM_0 rfl fl_X12_279 dX12_next_268 ?_
                  refine r_iconst (v := 1) dX12_next_271 rfl ?_
                  refine r_iadd dX12_next_272 ?_
                  obtain ⟨S40, hS40, h⟩ := b1_some h
                  refine r_setI (k := 0) (j := 37) sM_0 rfl pf_X12_279 hS40 dX12_next_273 ?_
                  refine r_goto 202 dX12_next_276 (by decide) ?_
                  obtain rfl := Option.some.inj h
                  exact hB S40 rfl
                clear h
                replace h := hw38
                refine r_icmp_ge 259 dX12_next_234 (by decide) (fun c42 => ?_) (fun c42 => ?_)
                · rw [if_pos c42] at h
                  refine r_aload_n 0 dX12_next_259 rfl rfl ?_
                  refine r_getI (k := 0) (j := 40) sM_0 rfl fl_X12_298 dX12_next_260 ?_
                  obtain rfl := Option.some.inj h
                  exact hJ
                · rw [if_neg c42] at h
                  refine r_bipush (v := 10) dX12_next_237 rfl ?_
                  refine r_aload_n 0 dX12_next_239 rfl rfl ?_
                  refine r_getI (k := 0) (j := 40) sM_0 rfl fl_X12_298 dX12_next_240 ?_
                  refine r_imul dX12_next_243 ?_
                  refine r_aload_n 0 dX12_next_244 rfl rfl ?_
                  refine r_aload_n 0 dX12_next_245 rfl rfl ?_
                  refine r_getI (k := 0) (j := 37) sM_0 rfl fl_X12_279 dX12_next_246 ?_
                  obtain ⟨x41, hx41, h⟩ := b1_some h
                  refine r_callVi (k := 0) (rest := [.int (10 * (gI_ S35 0 40)), .ref (ad_ G 0)]) (by omega) (mX12_look hx41) sM_0 rfl rfl cb_X12_look ml_X12_282 im_X12_look se_X12_look rfl rfl (Nat.le_of_ble_eq_true rfl) dX12_next_249 ?_
                  refine r_iadd dX12_next_252 ?_
                  refine r_bipush (v := 48) dX12_next_253 rfl ?_
                  refine r_isub dX12_next_255 ?_
                  refine r_goto 263 dX12_next_256 (by decide) ?_
                  obtain rfl := Option.some.inj h
                  exact hJ
            obtain ⟨u44, hu44, h⟩ := b1_some h
            refine key u44 hu44 ?_
            show Rn G shM 3 yX12_next cX12_next 2 none 279 [(0, .ref (ad_ G 0))] [] u44 post
            refine r_aload_n 0 dX12_next_279 rfl rfl ?_
            refine r_aload_n 0 dX12_next_280 rfl rfl ?_
            refine r_getI (k := 0) (j := 37) sM_0 rfl fl_X12_279 dX12_next_281 ?_
            refine r_aload_n 0 dX12_next_284 rfl rfl ?_
            refine r_getI (k := 0) (j := 38) sM_0 rfl fl_X12_273 dX12_next_285 ?_
            refine r_isub dX12_next_288 ?_
            refine r_iconst (v := 4) dX12_next_289 rfl ?_
            obtain ⟨w45, hw45, h⟩ := b1_some h
            have hJ : Rn G shM 3 yX12_next cX12_next 2 none 298 [] [.int w45, .ref (ad_ G 0)] u44 post := by
              refine r_iconst (v := 1) dX12_next_298 rfl ?_
              obtain ⟨S46, hS46, h⟩ := b1_some h
              refine r_callVv (k := 0) (rest := []) (by omega) (mX12_wants hS46) sM_0 rfl rfl cb_X12_wants ml_X12_301 im_X12_wants se_X12_wants rfl rfl (Nat.le_of_ble_eq_true rfl) dX12_next_299 ?_
              refine r_goto 336 dX12_next_302 (by decide) ?_
              obtain rfl := Option.some.inj h
              exact r_return rfl dX12_next_336 (hp)
            clear h
            replace h := hw45
            refine r_icmp_gt 297 dX12_next_290 (by decide) (fun c47 => ?_) (fun c47 => ?_)
            · rw [if_pos c47] at h
              refine r_iconst (v := 0) dX12_next_297 rfl ?_
              refine r_sub [] [] rfl ?_
              obtain rfl := Option.some.inj h
              exact hJ
            · rw [if_neg c47] at h
              refine r_iconst (v := 1) dX12_next_293 rfl ?_
              refine r_goto 298 dX12_next_294 (by decide) ?_
              refine r_sub [] [] rfl ?_
              obtain rfl := Option.some.inj h
              exact hJ
        · rw [if_neg c52] at h
          refine r_aload_n 0 dX12_next_152 rfl rfl ?_
          refine r_iconst (v := 2) dX12_next_153 rfl ?_
          obtain ⟨S49, hS49, h⟩ := b1_some h
          refine r_setI (k := 0) (j := 39) sM_0 rfl pf_X12_288 hS49 dX12_next_154 ?_
          refine r_aload_n 0 dX12_next_157 rfl rfl ?_
          refine r_iload_n 1 dX12_next_158 rfl rfl ?_
          refine r_bipush (v := 65) dX12_next_159 rfl ?_
          refine r_isub dX12_next_161 ?_
          obtain ⟨S50, hS50, h⟩ := b1_some h
          refine r_setI (k := 0) (j := 40) sM_0 rfl pf_X12_298 hS50 dX12_next_162 ?_
          refine r_aload_n 0 dX12_next_165 rfl rfl ?_
          refine r_dup dX12_next_166 rfl ?_
          refine r_getI (k := 0) (j := 37) sM_0 rfl fl_X12_279 dX12_next_167 ?_
          refine r_iconst (v := 1) dX12_next_170 rfl ?_
          refine r_iadd dX12_next_171 ?_
          obtain ⟨S51, hS51, h⟩ := b1_some h
          refine r_setI (k := 0) (j := 37) sM_0 rfl pf_X12_279 hS51 dX12_next_172 ?_
          refine r_goto 336 dX12_next_175 (by decide) ?_
          obtain rfl := Option.some.inj h
          exact r_return rfl dX12_next_336 (hp)
      · rw [if_neg c66] at h
        refine r_aload_n 0 dX12_next_69 rfl rfl ?_
        refine r_iconst (v := 1) dX12_next_70 rfl ?_
        obtain ⟨S53, hS53, h⟩ := b1_some h
        refine r_setI (k := 0) (j := 39) sM_0 rfl pf_X12_288 hS53 dX12_next_71 ?_
        refine r_sub [(0, .ref (ad_ G 0))] [0] rfl ?_
        have key : ∀ ex, lp (fun w54 : St => bX12_next_74  w54) 5000 S53 = some ex → (fun u60 : St => Rn G shM 3 yX12_next cX12_next 2 none 108 [(0, .ref (ad_ G 0))] [] u60 post) ex → Rn G shM 3 yX12_next cX12_next 2 none 74 [(0, .ref (ad_ G 0))] [] S53 post := by
          intro ex hl hx
          refine lp_rule (body := (fun w54 : St => bX12_next_74  w54)) (R := (fun w54 : St => Rn G shM 3 yX12_next cX12_next 2 none 74 [(0, .ref (ad_ G 0))] [] w54 post)) (X := (fun u60 : St => Rn G shM 3 yX12_next cX12_next 2 none 108 [(0, .ref (ad_ G 0))] [] u60 post)) ?_ 5000 S53 ex hl hx
          intro w54 oo h hB hX
          obtain ⟨S55, rfl⟩ : ∃ z, z = w54 := ⟨_, rfl⟩
          replace h : bX12_next_74  S55 = some oo := h
          unfold bX12_next_74 at h
          show Rn G shM 3 yX12_next cX12_next 2 none 74 [(0, .ref (ad_ G 0))] [] S55 post
          refine r_aload_n 0 dX12_next_74 rfl rfl ?_
          refine r_aload_n 0 dX12_next_75 rfl rfl ?_
          refine r_getI (k := 0) (j := 37) sM_0 rfl fl_X12_279 dX12_next_76 ?_
          obtain ⟨x56, hx56, h⟩ := b1_some h
          refine r_callVi (k := 0) (rest := []) (by omega) (mX12_look hx56) sM_0 rfl rfl cb_X12_look ml_X12_282 im_X12_look se_X12_look rfl rfl (Nat.le_of_ble_eq_true rfl) dX12_next_79 ?_
          refine r_i2l dX12_next_82 ?_
          refine r_ldc2 kl_X12_291 dX12_next_83 ?_
          refine r_ldc2 kl_X12_293 dX12_next_86 ?_
          obtain ⟨x57, hx57, h⟩ := b1_some h
          refine r_callSi (rest := []) (by omega) (mX12_in hx57) cb_X12_in ml_X12_145 sm_X12_in rfl rfl (Nat.le_of_ble_eq_true rfl) dX12_next_89 ?_
          refine r_if_eq 108 dX12_next_92 (by decide) (fun c59 => ?_) (fun c59 => ?_)
          · rw [if_pos c59] at h
            obtain rfl := Option.some.inj h
            exact hX S55 rfl
          · rw [if_neg c59] at h
            refine r_aload_n 0 dX12_next_95 rfl rfl ?_
            refine r_dup dX12_next_96 rfl ?_
            refine r_getI (k := 0) (j := 37) sM_0 rfl fl_X12_279 dX12_next_97 ?_
            refine r_iconst (v := 1) dX12_next_100 rfl ?_
            refine r_iadd dX12_next_101 ?_
            obtain ⟨S58, hS58, h⟩ := b1_some h
            refine r_setI (k := 0) (j := 37) sM_0 rfl pf_X12_279 hS58 dX12_next_102 ?_
            refine r_goto 74 dX12_next_105 (by decide) ?_
            obtain rfl := Option.some.inj h
            exact hB S58 rfl
        obtain ⟨u60, hu60, h⟩ := b1_some h
        refine key u60 hu60 ?_
        show Rn G shM 3 yX12_next cX12_next 2 none 108 [(0, .ref (ad_ G 0))] [] u60 post
        refine r_aload_n 0 dX12_next_108 rfl rfl ?_
        refine r_aload_n 0 dX12_next_109 rfl rfl ?_
        obtain ⟨x61, hx61, h⟩ := b1_some h
        refine r_callVi (k := 0) (rest := [.ref (ad_ G 0)]) (by omega) (mX12_wordNow hx61) sM_0 rfl rfl cb_X12_wordNow ml_X12_295 im_X12_wordNow se_X12_wordNow rfl rfl (Nat.le_of_ble_eq_true rfl) dX12_next_110 ?_
        obtain ⟨S62, hS62, h⟩ := b1_some h
        refine r_setI (k := 0) (j := 40) sM_0 rfl pf_X12_298 hS62 dX12_next_113 ?_
        refine r_aload_n 0 dX12_next_116 rfl rfl ?_
        refine r_aload_n 0 dX12_next_117 rfl rfl ?_
        refine r_getI (k := 0) (j := 40) sM_0 rfl fl_X12_298 dX12_next_118 ?_
        refine r_bipush (v := (-4)) dX12_next_121 rfl ?_
        obtain ⟨w63, hw63, h⟩ := b1_some h
        have hJ : Rn G shM 3 yX12_next cX12_next 2 none 131 [] [.int w63, .ref (ad_ G 0)] S62 post := by
          refine r_iconst (v := 1) dX12_next_131 rfl ?_
          obtain ⟨S64, hS64, h⟩ := b1_some h
          refine r_callVv (k := 0) (rest := []) (by omega) (mX12_wants hS64) sM_0 rfl rfl cb_X12_wants ml_X12_301 im_X12_wants se_X12_wants rfl rfl (Nat.le_of_ble_eq_true rfl) dX12_next_132 ?_
          refine r_goto 336 dX12_next_135 (by decide) ?_
          obtain rfl := Option.some.inj h
          exact r_return rfl dX12_next_336 (hp)
        clear h
        replace h := hw63
        refine r_icmp_eq 130 dX12_next_123 (by decide) (fun c65 => ?_) (fun c65 => ?_)
        · rw [if_pos c65] at h
          refine r_iconst (v := 0) dX12_next_130 rfl ?_
          refine r_sub [] [] rfl ?_
          obtain rfl := Option.some.inj h
          exact hJ
        · rw [if_neg c65] at h
          refine r_iconst (v := 1) dX12_next_126 rfl ?_
          refine r_goto 131 dX12_next_127 (by decide) ?_
          refine r_sub [] [] rfl ?_
          obtain rfl := Option.some.inj h
          exact hJ
    · rw [if_neg c68] at h
      refine r_aload_n 0 dX12_next_47 rfl rfl ?_
      refine r_iconst (v := 0) dX12_next_48 rfl ?_
      obtain ⟨S67, hS67, h⟩ := b1_some h
      refine r_setI (k := 0) (j := 39) sM_0 rfl pf_X12_288 hS67 dX12_next_49 ?_
      refine r_goto 336 dX12_next_52 (by decide) ?_
      obtain rfl := Option.some.inj h
      exact r_return rfl dX12_next_336 (hp)
  · rw [if_pos c123] at h
    refine r_aload_n 0 dX12_next_13 rfl rfl ?_
    refine r_dup dX12_next_14 rfl ?_
    refine r_getI (k := 0) (j := 37) sM_0 rfl fl_X12_279 dX12_next_15 ?_
    refine r_iconst (v := 1) dX12_next_18 rfl ?_
    refine r_iadd dX12_next_19 ?_
    obtain ⟨S69, hS69, h⟩ := b1_some h
    refine r_setI (k := 0) (j := 37) sM_0 rfl pf_X12_279 hS69 dX12_next_20 ?_
    refine r_goto 0 dX12_next_23 (by decide) ?_
    have key : ∀ ex, lp (fun w70 : St => bX12_next_0  w70) 5000 S69 = some ex → (fun u75 : St => Rn G shM 3 yX12_next cX12_next 2 none 26 [(0, .ref (ad_ G 0))] [] u75 post) ex → Rn G shM 3 yX12_next cX12_next 2 none 0 [(0, .ref (ad_ G 0))] [] S69 post := by
      intro ex hl hx
      refine lp_rule (body := (fun w70 : St => bX12_next_0  w70)) (R := (fun w70 : St => Rn G shM 3 yX12_next cX12_next 2 none 0 [(0, .ref (ad_ G 0))] [] w70 post)) (X := (fun u75 : St => Rn G shM 3 yX12_next cX12_next 2 none 26 [(0, .ref (ad_ G 0))] [] u75 post)) ?_ 5000 S69 ex hl hx
      intro w70 oo h hB hX
      obtain ⟨S71, rfl⟩ : ∃ z, z = w70 := ⟨_, rfl⟩
      replace h : bX12_next_0  S71 = some oo := h
      unfold bX12_next_0 at h
      show Rn G shM 3 yX12_next cX12_next 2 none 0 [(0, .ref (ad_ G 0))] [] S71 post
      refine r_aload_n 0 dX12_next_0 rfl rfl ?_
      refine r_aload_n 0 dX12_next_1 rfl rfl ?_
      refine r_getI (k := 0) (j := 37) sM_0 rfl fl_X12_279 dX12_next_2 ?_
      obtain ⟨x72, hx72, h⟩ := b1_some h
      refine r_callVi (k := 0) (rest := []) (by omega) (mX12_look hx72) sM_0 rfl rfl cb_X12_look ml_X12_282 im_X12_look se_X12_look rfl rfl (Nat.le_of_ble_eq_true rfl) dX12_next_5 ?_
      refine r_bipush (v := 32) dX12_next_8 rfl ?_
      refine r_icmp_ne 26 dX12_next_10 (by decide) (fun c74 => ?_) (fun c74 => ?_)
      · rw [if_neg c74] at h
        obtain rfl := Option.some.inj h
        exact hX S71 rfl
      · rw [if_pos c74] at h
        refine r_aload_n 0 dX12_next_13 rfl rfl ?_
        refine r_dup dX12_next_14 rfl ?_
        refine r_getI (k := 0) (j := 37) sM_0 rfl fl_X12_279 dX12_next_15 ?_
        refine r_iconst (v := 1) dX12_next_18 rfl ?_
        refine r_iadd dX12_next_19 ?_
        obtain ⟨S73, hS73, h⟩ := b1_some h
        refine r_setI (k := 0) (j := 37) sM_0 rfl pf_X12_279 hS73 dX12_next_20 ?_
        refine r_goto 0 dX12_next_23 (by decide) ?_
        obtain rfl := Option.some.inj h
        exact hB S73 rfl
    obtain ⟨u75, hu75, h⟩ := b1_some h
    refine key u75 hu75 ?_
    show Rn G shM 3 yX12_next cX12_next 2 none 26 [(0, .ref (ad_ G 0))] [] u75 post
    refine r_aload_n 0 dX12_next_26 rfl rfl ?_
    refine r_aload_n 0 dX12_next_27 rfl rfl ?_
    refine r_getI (k := 0) (j := 37) sM_0 rfl fl_X12_279 dX12_next_28 ?_
    obtain ⟨S76, hS76, h⟩ := b1_some h
    refine r_setI (k := 0) (j := 38) sM_0 rfl pf_X12_273 hS76 dX12_next_31 ?_
    refine r_aload_n 0 dX12_next_34 rfl rfl ?_
    refine r_aload_n 0 dX12_next_35 rfl rfl ?_
    refine r_getI (k := 0) (j := 37) sM_0 rfl fl_X12_279 dX12_next_36 ?_
    obtain ⟨x77, hx77, h⟩ := b1_some h
    refine r_callVi (k := 0) (rest := []) (by omega) (mX12_look hx77) sM_0 rfl rfl cb_X12_look ml_X12_282 im_X12_look se_X12_look rfl rfl (Nat.le_of_ble_eq_true rfl) dX12_next_39 ?_
    refine r_istore_n (i := 1) [(0, .ref (ad_ G 0)), (1, .int x77)] [1, 0] dX12_next_42 rfl (by decide) rfl ?_
    refine r_iload_n 1 dX12_next_43 rfl rfl ?_
    refine r_if_ge 55 dX12_next_44 (by decide) (fun c122 => ?_) (fun c122 => ?_)
    · rw [if_pos c122] at h
      refine r_iload_n 1 dX12_next_55 rfl rfl ?_
      refine r_i2l dX12_next_56 ?_
      refine r_ldc2 kl_X12_291 dX12_next_57 ?_
      refine r_ldc2 kl_X12_293 dX12_next_60 ?_
      obtain ⟨x78, hx78, h⟩ := b1_some h
      refine r_callSi (rest := []) (by omega) (mX12_in hx78) cb_X12_in ml_X12_145 sm_X12_in rfl rfl (Nat.le_of_ble_eq_true rfl) dX12_next_63 ?_
      refine r_if_eq 138 dX12_next_66 (by decide) (fun c120 => ?_) (fun c120 => ?_)
      · rw [if_pos c120] at h
        refine r_iload_n 1 dX12_next_138 rfl rfl ?_
        refine r_i2l dX12_next_139 ?_
        refine r_ldc2 kl_X12_305 dX12_next_140 ?_
        refine r_ldc2 kl_X12_307 dX12_next_143 ?_
        obtain ⟨x79, hx79, h⟩ := b1_some h
        refine r_callSi (rest := []) (by omega) (mX12_in hx79) cb_X12_in ml_X12_145 sm_X12_in rfl rfl (Nat.le_of_ble_eq_true rfl) dX12_next_146 ?_
        refine r_if_eq 178 dX12_next_149 (by decide) (fun c106 => ?_) (fun c106 => ?_)
        · rw [if_pos c106] at h
          refine r_iload_n 1 dX12_next_178 rfl rfl ?_
          refine r_i2l dX12_next_179 ?_
          refine r_ldc2 kl_X12_309 dX12_next_180 ?_
          refine r_ldc2 kl_X12_311 dX12_next_183 ?_
          obtain ⟨x80, hx80, h⟩ := b1_some h
          refine r_callSi (rest := []) (by omega) (mX12_in hx80) cb_X12_in ml_X12_145 sm_X12_in rfl rfl (Nat.le_of_ble_eq_true rfl) dX12_next_186 ?_
          refine r_if_eq 305 dX12_next_189 (by decide) (fun c102 => ?_) (fun c102 => ?_)
          · rw [if_pos c102] at h
            refine r_aload_n 0 dX12_next_305 rfl rfl ?_
            refine r_iload_n 1 dX12_next_306 rfl rfl ?_
            refine r_bipush (v := 59) dX12_next_307 rfl ?_
            obtain ⟨w81, hw81, h⟩ := b1_some h
            have hJ : Rn G shM 3 yX12_next cX12_next 2 none 317 [(0, .ref (ad_ G 0))] [.int w81, .ref (ad_ G 0)] S76 post := by
              refine r_iconst (v := 1) dX12_next_317 rfl ?_
              obtain ⟨S82, hS82, h⟩ := b1_some h
              refine r_callVv (k := 0) (rest := []) (by omega) (mX12_wants hS82) sM_0 rfl rfl cb_X12_wants ml_X12_301 im_X12_wants se_X12_wants rfl rfl (Nat.le_of_ble_eq_true rfl) dX12_next_318 ?_
              refine r_aload_n 0 dX12_next_321 rfl rfl ?_
              refine r_iconst (v := 4) dX12_next_322 rfl ?_
              obtain ⟨S83, hS83, h⟩ := b1_some h
              refine r_setI (k := 0) (j := 39) sM_0 rfl pf_X12_288 hS83 dX12_next_323 ?_
              refine r_aload_n 0 dX12_next_326 rfl rfl ?_
              refine r_dup dX12_next_327 rfl ?_
              refine r_getI (k := 0) (j := 37) sM_0 rfl fl_X12_279 dX12_next_328 ?_
              refine r_iconst (v := 1) dX12_next_331 rfl ?_
              refine r_iadd dX12_next_332 ?_
              obtain ⟨S84, hS84, h⟩ := b1_some h
              refine r_setI (k := 0) (j := 37) sM_0 rfl pf_X12_279 hS84 dX12_next_333 ?_
              obtain rfl := Option.some.inj h
              exact r_return rfl dX12_next_336 (hp)
            clear h
            replace h := hw81
            refine r_icmp_ne 316 dX12_next_309 (by decide) (fun c85 => ?_) (fun c85 => ?_)
            · rw [if_neg c85] at h
              refine r_iconst (v := 0) dX12_next_316 rfl ?_
              refine r_sub [(0, .ref (ad_ G 0))] [0] rfl ?_
              obtain rfl := Option.some.inj h
              exact hJ
            · rw [if_pos c85] at h
              refine r_iconst (v := 1) dX12_next_312 rfl ?_
              refine r_goto 317 dX12_next_313 (by decide) ?_
              refine r_sub [(0, .ref (ad_ G 0))] [0] rfl ?_
              obtain rfl := Option.some.inj h
              exact hJ
          · rw [if_neg c102] at h
            refine r_aload_n 0 dX12_next_192 rfl rfl ?_
            refine r_iconst (v := 3) dX12_next_193 rfl ?_
            obtain ⟨S86, hS86, h⟩ := b1_some h
            refine r_setI (k := 0) (j := 39) sM_0 rfl pf_X12_288 hS86 dX12_next_194 ?_
            refine r_aload_n 0 dX12_next_197 rfl rfl ?_
            refine r_iconst (v := 0) dX12_next_198 rfl ?_
            obtain ⟨S87, hS87, h⟩ := b1_some h
            refine r_setI (k := 0) (j := 40) sM_0 rfl pf_X12_298 hS87 dX12_next_199 ?_
            refine r_sub [(0, .ref (ad_ G 0))] [0] rfl ?_
            have key : ∀ ex, lp (fun w88 : St => bX12_next_202b  w88) 5000 S87 = some ex → (fun u98 : St => Rn G shM 3 yX12_next cX12_next 2 none 279 [(0, .ref (ad_ G 0))] [] u98 post) ex → Rn G shM 3 yX12_next cX12_next 2 none 202 [(0, .ref (ad_ G 0))] [] S87 post := by
              intro ex hl hx
              refine lp_rule (body := (fun w88 : St => bX12_next_202b  w88)) (R := (fun w88 : St => Rn G shM 3 yX12_next cX12_next 2 none 202 [(0, .ref (ad_ G 0))] [] w88 post)) (X := (fun u98 : St => Rn G shM 3 yX12_next cX12_next 2 none 279 [(0, .ref (ad_ G 0))] [] u98 post)) ?_ 5000 S87 ex hl hx
              intro w88 oo h hB hX
              obtain ⟨S89, rfl⟩ : ∃ z, z = w88 := ⟨_, rfl⟩
              replace h : bX12_next_202b  S89 = some oo := h
              unfold bX12_next_202b at h
              show Rn G shM 3 yX12_next cX12_next 2 none 202 [(0, .ref (ad_ G 0))] [] S89 post
              refine r_aload_n 0 dX12_next_202 rfl rfl ?_
              refine r_aload_n 0 dX12_next_203 rfl rfl ?_
              refine r_getI (k := 0) (j := 37) sM_0 rfl fl_X12_279 dX12_next_204 ?_
              obtain ⟨x90, hx90, h⟩ := b1_some h
              refine r_callVi (k := 0) (rest := []) (by omega) (mX12_look hx90) sM_0 rfl rfl cb_X12_look ml_X12_282 im_X12_look se_X12_look rfl rfl (Nat.le_of_ble_eq_true rfl) dX12_next_207 ?_
              refine r_i2l dX12_next_210 ?_
              refine r_ldc2 kl_X12_309 dX12_next_211 ?_
              refine r_ldc2 kl_X12_311 dX12_next_214 ?_
              obtain ⟨x91, hx91, h⟩ := b1_some h
              refine r_callSi (rest := []) (by omega) (mX12_in hx91) cb_X12_in ml_X12_145 sm_X12_in rfl rfl (Nat.le_of_ble_eq_true rfl) dX12_next_217 ?_
              refine r_if_eq 279 dX12_next_220 (by decide) (fun c97 => ?_) (fun c97 => ?_)
              · rw [if_pos c97] at h
                obtain rfl := Option.some.inj h
                exact hX S89 rfl
              · rw [if_neg c97] at h
                refine r_aload_n 0 dX12_next_223 rfl rfl ?_
                refine r_aload_n 0 dX12_next_224 rfl rfl ?_
                refine r_getI (k := 0) (j := 37) sM_0 rfl fl_X12_279 dX12_next_225 ?_
                refine r_aload_n 0 dX12_next_228 rfl rfl ?_
                refine r_getI (k := 0) (j := 38) sM_0 rfl fl_X12_273 dX12_next_229 ?_
                refine r_isub dX12_next_232 ?_
                refine r_iconst (v := 4) dX12_next_233 rfl ?_
                obtain ⟨w92, hw92, h⟩ := b1_some h
                have hJ : Rn G shM 3 yX12_next cX12_next 2 none 263 [(0, .ref (ad_ G 0))] [.int w92, .ref (ad_ G 0)] S89 post := by
                  obtain ⟨S93, hS93, h⟩ := b1_some h
                  refine r_setI (k := 0) (j := 40) sM_0 rfl pf_X12_298 hS93 dX12_next_263 ?_
                  refine r_aload_n 0 dX12_next_266 rfl rfl ?_
                  refine r_dup dX12_next_267 rfl ?_
                  refine r_getI (k := 0) (j := 37) sM_0 rfl fl_X12_279 dX12_next_268 ?_
                  refine r_iconst (v := 1) dX12_next_271 rfl ?_
                  refine r_iadd dX12_next_272 ?_
                  obtain ⟨S94, hS94, h⟩ := b1_some h
                  refine r_setI (k := 0) (j := 37) sM_0 rfl pf_X12_279 hS94 dX12_next_273 ?_
                  refine r_goto 202 dX12_next_276 (by decide) ?_
                  obtain rfl := Option.some.inj h
                  exact hB S94 rfl
                clear h
                replace h := hw92
                refine r_icmp_ge 259 dX12_next_234 (by decide) (fun c96 => ?_) (fun c96 => ?_)
                · rw [if_pos c96] at h
                  refine r_aload_n 0 dX12_next_259 rfl rfl ?_
                  refine r_getI (k := 0) (j := 40) sM_0 rfl fl_X12_298 dX12_next_260 ?_
                  obtain rfl := Option.some.inj h
                  exact hJ
                · rw [if_neg c96] at h
                  refine r_bipush (v := 10) dX12_next_237 rfl ?_
                  refine r_aload_n 0 dX12_next_239 rfl rfl ?_
                  refine r_getI (k := 0) (j := 40) sM_0 rfl fl_X12_298 dX12_next_240 ?_
                  refine r_imul dX12_next_243 ?_
                  refine r_aload_n 0 dX12_next_244 rfl rfl ?_
                  refine r_aload_n 0 dX12_next_245 rfl rfl ?_
                  refine r_getI (k := 0) (j := 37) sM_0 rfl fl_X12_279 dX12_next_246 ?_
                  obtain ⟨x95, hx95, h⟩ := b1_some h
                  refine r_callVi (k := 0) (rest := [.int (10 * (gI_ S89 0 40)), .ref (ad_ G 0)]) (by omega) (mX12_look hx95) sM_0 rfl rfl cb_X12_look ml_X12_282 im_X12_look se_X12_look rfl rfl (Nat.le_of_ble_eq_true rfl) dX12_next_249 ?_
                  refine r_iadd dX12_next_252 ?_
                  refine r_bipush (v := 48) dX12_next_253 rfl ?_
                  refine r_isub dX12_next_255 ?_
                  refine r_goto 263 dX12_next_256 (by decide) ?_
                  obtain rfl := Option.some.inj h
                  exact hJ
            obtain ⟨u98, hu98, h⟩ := b1_some h
            refine key u98 hu98 ?_
            show Rn G shM 3 yX12_next cX12_next 2 none 279 [(0, .ref (ad_ G 0))] [] u98 post
            refine r_aload_n 0 dX12_next_279 rfl rfl ?_
            refine r_aload_n 0 dX12_next_280 rfl rfl ?_
            refine r_getI (k := 0) (j := 37) sM_0 rfl fl_X12_279 dX12_next_281 ?_
            refine r_aload_n 0 dX12_next_284 rfl rfl ?_
            refine r_getI (k := 0) (j := 38) sM_0 rfl fl_X12_273 dX12_next_285 ?_
            refine r_isub dX12_next_288 ?_
            refine r_iconst (v := 4) dX12_next_289 rfl ?_
            obtain ⟨w99, hw99, h⟩ := b1_some h
            have hJ : Rn G shM 3 yX12_next cX12_next 2 none 298 [] [.int w99, .ref (ad_ G 0)] u98 post := by
              refine r_iconst (v := 1) dX12_next_298 rfl ?_
              obtain ⟨S100, hS100, h⟩ := b1_some h
              refine r_callVv (k := 0) (rest := []) (by omega) (mX12_wants hS100) sM_0 rfl rfl cb_X12_wants ml_X12_301 im_X12_wants se_X12_wants rfl rfl (Nat.le_of_ble_eq_true rfl) dX12_next_299 ?_
              refine r_goto 336 dX12_next_302 (by decide) ?_
              obtain rfl := Option.some.inj h
              exact r_return rfl dX12_next_336 (hp)
            clear h
            replace h := hw99
            refine r_icmp_gt 297 dX12_next_290 (by decide) (fun c101 => ?_) (fun c101 => ?_)
            · rw [if_pos c101] at h
              refine r_iconst (v := 0) dX12_next_297 rfl ?_
              refine r_sub [] [] rfl ?_
              obtain rfl := Option.some.inj h
              exact hJ
            · rw [if_neg c101] at h
              refine r_iconst (v := 1) dX12_next_293 rfl ?_
              refine r_goto 298 dX12_next_294 (by decide) ?_
              refine r_sub [] [] rfl ?_
              obtain rfl := Option.some.inj h
              exact hJ
        · rw [if_neg c106] at h
          refine r_aload_n 0 dX12_next_152 rfl rfl ?_
          refine r_iconst (v := 2) dX12_next_153 rfl ?_
          obtain ⟨S103, hS103, h⟩ := b1_some h
          refine r_setI (k := 0) (j := 39) sM_0 rfl pf_X12_288 hS103 dX12_next_154 ?_
          refine r_aload_n 0 dX12_next_157 rfl rfl ?_
          refine r_iload_n 1 dX12_next_158 rfl rfl ?_
          refine r_bipush (v := 65) dX12_next_159 rfl ?_
          refine r_isub dX12_next_161 ?_
          obtain ⟨S104, hS104, h⟩ := b1_some h
          refine r_setI (k := 0) (j := 40) sM_0 rfl pf_X12_298 hS104 dX12_next_162 ?_
          refine r_aload_n 0 dX12_next_165 rfl rfl ?_
          refine r_dup dX12_next_166 rfl ?_
          refine r_getI (k := 0) (j := 37) sM_0 rfl fl_X12_279 dX12_next_167 ?_
          refine r_iconst (v := 1) dX12_next_170 rfl ?_
          refine r_iadd dX12_next_171 ?_
          obtain ⟨S105, hS105, h⟩ := b1_some h
          refine r_setI (k := 0) (j := 37) sM_0 rfl pf_X12_279 hS105 dX12_next_172 ?_
          refine r_goto 336 dX12_next_175 (by decide) ?_
          obtain rfl := Option.some.inj h
          exact r_return rfl dX12_next_336 (hp)
      · rw [if_neg c120] at h
        refine r_aload_n 0 dX12_next_69 rfl rfl ?_
        refine r_iconst (v := 1) dX12_next_70 rfl ?_
        obtain ⟨S107, hS107, h⟩ := b1_some h
        refine r_setI (k := 0) (j := 39) sM_0 rfl pf_X12_288 hS107 dX12_next_71 ?_
        refine r_sub [(0, .ref (ad_ G 0))] [0] rfl ?_
        have key : ∀ ex, lp (fun w108 : St => bX12_next_74b  w108) 5000 S107 = some ex → (fun u114 : St => Rn G shM 3 yX12_next cX12_next 2 none 108 [(0, .ref (ad_ G 0))] [] u114 post) ex → Rn G shM 3 yX12_next cX12_next 2 none 74 [(0, .ref (ad_ G 0))] [] S107 post := by
          intro ex hl hx
          refine lp_rule (body := (fun w108 : St => bX12_next_74b  w108)) (R := (fun w108 : St => Rn G shM 3 yX12_next cX12_next 2 none 74 [(0, .ref (ad_ G 0))] [] w108 post)) (X := (fun u114 : St => Rn G shM 3 yX12_next cX12_next 2 none 108 [(0, .ref (ad_ G 0))] [] u114 post)) ?_ 5000 S107 ex hl hx
          intro w108 oo h hB hX
          obtain ⟨S109, rfl⟩ : ∃ z, z = w108 := ⟨_, rfl⟩
          replace h : bX12_next_74b  S109 = some oo := h
          unfold bX12_next_74b at h
          show Rn G shM 3 yX12_next cX12_next 2 none 74 [(0, .ref (ad_ G 0))] [] S109 post
          refine r_aload_n 0 dX12_next_74 rfl rfl ?_
          refine r_aload_n 0 dX12_next_75 rfl rfl ?_
          refine r_getI (k := 0) (j := 37) sM_0 rfl fl_X12_279 dX12_next_76 ?_
          obtain ⟨x110, hx110, h⟩ := b1_some h
          refine r_callVi (k := 0) (rest := []) (by omega) (mX12_look hx110) sM_0 rfl rfl cb_X12_look ml_X12_282 im_X12_look se_X12_look rfl rfl (Nat.le_of_ble_eq_true rfl) dX12_next_79 ?_
          refine r_i2l dX12_next_82 ?_
          refine r_ldc2 kl_X12_291 dX12_next_83 ?_
          refine r_ldc2 kl_X12_293 dX12_next_86 ?_
          obtain ⟨x111, hx111, h⟩ := b1_some h
          refine r_callSi (rest := []) (by omega) (mX12_in hx111) cb_X12_in ml_X12_145 sm_X12_in rfl rfl (Nat.le_of_ble_eq_true rfl) dX12_next_89 ?_
          refine r_if_eq 108 dX12_next_92 (by decide) (fun c113 => ?_) (fun c113 => ?_)
          · rw [if_pos c113] at h
            obtain rfl := Option.some.inj h
            exact hX S109 rfl
          · rw [if_neg c113] at h
            refine r_aload_n 0 dX12_next_95 rfl rfl ?_
            refine r_dup dX12_next_96 rfl ?_
            refine r_getI (k := 0) (j := 37) sM_0 rfl fl_X12_279 dX12_next_97 ?_
            refine r_iconst (v := 1) dX12_next_100 rfl ?_
            refine r_iadd dX12_next_101 ?_
            obtain ⟨S112, hS112, h⟩ := b1_some h
            refine r_setI (k := 0) (j := 37) sM_0 rfl pf_X12_279 hS112 dX12_next_102 ?_
            refine r_goto 74 dX12_next_105 (by decide) ?_
            obtain rfl := Option.some.inj h
            exact hB S112 rfl
        obtain ⟨u114, hu114, h⟩ := b1_some h
        refine key u114 hu114 ?_
        show Rn G shM 3 yX12_next cX12_next 2 none 108 [(0, .ref (ad_ G 0))] [] u114 post
        refine r_aload_n 0 dX12_next_108 rfl rfl ?_
        refine r_aload_n 0 dX12_next_109 rfl rfl ?_
        obtain ⟨x115, hx115, h⟩ := b1_some h
        refine r_callVi (k := 0) (rest := [.ref (ad_ G 0)]) (by omega) (mX12_wordNow hx115) sM_0 rfl rfl cb_X12_wordNow ml_X12_295 im_X12_wordNow se_X12_wordNow rfl rfl (Nat.le_of_ble_eq_true rfl) dX12_next_110 ?_
        obtain ⟨S116, hS116, h⟩ := b1_some h
        refine r_setI (k := 0) (j := 40) sM_0 rfl pf_X12_298 hS116 dX12_next_113 ?_
        refine r_aload_n 0 dX12_next_116 rfl rfl ?_
        refine r_aload_n 0 dX12_next_117 rfl rfl ?_
        refine r_getI (k := 0) (j := 40) sM_0 rfl fl_X12_298 dX12_next_118 ?_
        refine r_bipush (v := (-4)) dX12_next_121 rfl ?_
        obtain ⟨w117, hw117, h⟩ := b1_some h
        have hJ : Rn G shM 3 yX12_next cX12_next 2 none 131 [] [.int w117, .ref (ad_ G 0)] S116 post := by
          refine r_iconst (v := 1) dX12_next_131 rfl ?_
          obtain ⟨S118, hS118, h⟩ := b1_some h
          refine r_callVv (k := 0) (rest := []) (by omega) (mX12_wants hS118) sM_0 rfl rfl cb_X12_wants ml_X12_301 im_X12_wants se_X12_wants rfl rfl (Nat.le_of_ble_eq_true rfl) dX12_next_132 ?_
          refine r_goto 336 dX12_next_135 (by decide) ?_
          obtain rfl := Option.some.inj h
          exact r_return rfl dX12_next_336 (hp)
        clear h
        replace h := hw117
        refine r_icmp_eq 130 dX12_next_123 (by decide) (fun c119 => ?_) (fun c119 => ?_)
        · rw [if_pos c119] at h
          refine r_iconst (v := 0) dX12_next_130 rfl ?_
          refine r_sub [] [] rfl ?_
          obtain rfl := Option.some.inj h
          exact hJ
        · rw [if_neg c119] at h
          refine r_iconst (v := 1) dX12_next_126 rfl ?_
          refine r_goto 131 dX12_next_127 (by decide) ?_
          refine r_sub [] [] rfl ?_
          obtain rfl := Option.some.inj h
          exact hJ
    · rw [if_neg c122] at h
      refine r_aload_n 0 dX12_next_47 rfl rfl ?_
      refine r_iconst (v := 0) dX12_next_48 rfl ?_
      obtain ⟨S121, hS121, h⟩ := b1_some h
      refine r_setI (k := 0) (j := 39) sM_0 rfl pf_X12_288 hS121 dX12_next_49 ?_
      refine r_goto 336 dX12_next_52 (by decide) ?_
      obtain rfl := Option.some.inj h
      exact r_return rfl dX12_next_336 (hp)
theorem mX12_next {G : Gx} {S : St} {o : St}  (h : fX12_next S = some o) : MR_ G shM 3 yX12_next cX12_next 2 none [.ref (ad_ G 0)] S (PV_ o) := MR_of cb_X12_next (Nat.le_of_ble_eq_true rfl) [(0, .ref (ad_ G 0))] rfl (tX12_next  h ⟨rfl, rfl⟩)
set_option maxRecDepth 100000 in
set_option maxHeartbeats 4000000 in
theorem tX12_goesOn {G : Gx} {post : Option Value → St → Prop} {S : St} {o : St}  (h : fX12_goesOn S = some o) (hp : post none o) : Rn G shM 4 yX12_goesOn cX12_goesOn 1 none 0 [(0, .ref (ad_ G 0))] [] S post := by
  unfold fX12_goesOn at h
  refine r_aload_n 0 dX12_goesOn_0 rfl rfl ?_
  refine r_getI (k := 0) (j := 41) sM_0 rfl fl_X12_270 dX12_goesOn_1 ?_
  refine r_if_ne 11 dX12_goesOn_4 (by decide) (fun c22 => ?_) (fun c22 => ?_)
  · rw [if_neg c22] at h
    obtain rfl := Option.some.inj h
    exact r_return rfl dX12_goesOn_11 (hp)
  · rw [if_pos c22] at h
    refine r_aload_n 0 dX12_goesOn_7 rfl rfl ?_
    obtain ⟨S21, hS21, h⟩ := b1_some h
    refine r_callVv (k := 0) (rest := []) (by omega) (mX12_next hS21) sM_0 rfl rfl cb_X12_next ml_X12_313 im_X12_next se_X12_next rfl rfl (Nat.le_of_ble_eq_true rfl) dX12_goesOn_8 ?_
    obtain rfl := Option.some.inj h
    exact r_return rfl dX12_goesOn_11 (hp)
theorem mX12_goesOn {G : Gx} {S : St} {o : St}  (h : fX12_goesOn S = some o) : MR_ G shM 4 yX12_goesOn cX12_goesOn 1 none [.ref (ad_ G 0)] S (PV_ o) := MR_of cb_X12_goesOn (Nat.le_of_ble_eq_true rfl) [(0, .ref (ad_ G 0))] rfl (tX12_goesOn  h ⟨rfl, rfl⟩)
