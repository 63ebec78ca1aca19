set_option maxRecDepth 100000 in
set_option maxHeartbeats 4000000 in
theorem tX12_lot {G : Gx} {post : Option Value → St → Prop} {S : St} {v1 : Int32} {v2 : Int32} {o : (Int32 × St)}  (h : fX12_lot S v1 v2 = some o) (hp : post (some (.int o.1)) o.2) : Rn G shM 2 yX12_lot cX12_lot 3 (some .int) 0 [(0, .ref (ad_ G 0)), (1, .int v1), (2, .int v2)] [] S post := by
  unfold fX12_lot at h
  refine r_iload_n 1 dX12_lot_0 rfl rfl ?_
  refine r_i2l dX12_lot_1 ?_
  refine r_lconst (v := 0) dX12_lot_2 rfl ?_
  refine r_ldc2 kl_X12_222 dX12_lot_3 ?_
  obtain ⟨x21, hx21, h⟩ := b1_some h
  refine r_callSi (rest := []) (by omega) (mX12_in hx21) cb_X12_in ml_X12_145 sm_X12_in rfl rfl (Nat.le_of_ble_eq_true rfl) dX12_lot_6 ?_
  refine r_if_eq 24 dX12_lot_9 (by decide) (fun c32 => ?_) (fun c32 => ?_)
  · rw [if_pos c32] at h
    refine r_sipush (v := (-10000)) dX12_lot_24 rfl ?_
    obtain rfl := Option.some.inj h
    exact r_ireturn rfl dX12_lot_27 (hp)
  · rw [if_neg c32] at h
    refine r_iload_n 2 dX12_lot_12 rfl rfl ?_
    refine r_i2l dX12_lot_13 ?_
    refine r_lconst (v := 0) dX12_lot_14 rfl ?_
    refine r_ldc2 kl_X12_222 dX12_lot_15 ?_
    obtain ⟨x22, hx22, h⟩ := b1_some h
    refine r_callSi (rest := []) (by omega) (mX12_in hx22) cb_X12_in ml_X12_145 sm_X12_in rfl rfl (Nat.le_of_ble_eq_true rfl) dX12_lot_18 ?_
    refine r_if_ne 28 dX12_lot_21 (by decide) (fun c31 => ?_) (fun c31 => ?_)
    · rw [if_neg c31] at h
      refine r_aload_n 0 dX12_lot_28 rfl rfl ?_
      refine r_iload_n 1 dX12_lot_29 rfl rfl ?_
      obtain ⟨S23, hS23, h⟩ := b1_some h
      refine r_callVv (k := 0) (rest := []) (by omega) (mX12_findLot hS23) sM_0 rfl rfl cb_X12_findLot ml_X12_388 im_X12_findLot se_X12_findLot rfl rfl (Nat.le_of_ble_eq_true rfl) dX12_lot_30 ?_
      refine r_iload_n 2 dX12_lot_33 rfl rfl ?_
      by_cases c24 : v2 = 0
      · rw [if_pos c24] at h
        refine r_tableIn 68 dX12_lot_34 c24 (by decide) (by decide) rfl (by decide) ?_
        refine r_aload_n 0 dX12_lot_68 rfl rfl ?_
        refine r_getI (k := 0) (j := 59) sM_0 rfl fl_X12_370 dX12_lot_69 ?_
        obtain rfl := Option.some.inj h
        exact r_ireturn rfl dX12_lot_72 (hp)
      · rw [if_neg c24] at h
        by_cases c25 : v2 = 1
        · rw [if_pos c25] at h
          refine r_tableIn 73 dX12_lot_34 c25 (by decide) (by decide) rfl (by decide) ?_
          refine r_aload_n 0 dX12_lot_73 rfl rfl ?_
          refine r_getI (k := 0) (j := 60) sM_0 rfl fl_X12_373 dX12_lot_74 ?_
          obtain rfl := Option.some.inj h
          exact r_ireturn rfl dX12_lot_77 (hp)
        · rw [if_neg c25] at h
          by_cases c26 : v2 = 2
          · rw [if_pos c26] at h
            refine r_tableIn 78 dX12_lot_34 c26 (by decide) (by decide) rfl (by decide) ?_
            refine r_aload_n 0 dX12_lot_78 rfl rfl ?_
            refine r_getI (k := 0) (j := 61) sM_0 rfl fl_X12_376 dX12_lot_79 ?_
            obtain rfl := Option.some.inj h
            exact r_ireturn rfl dX12_lot_82 (hp)
          · rw [if_neg c26] at h
            by_cases c27 : v2 = 3
            · rw [if_pos c27] at h
              refine r_tableIn 83 dX12_lot_34 c27 (by decide) (by decide) rfl (by decide) ?_
              refine r_aload_n 0 dX12_lot_83 rfl rfl ?_
              refine r_getI (k := 0) (j := 62) sM_0 rfl fl_X12_379 dX12_lot_84 ?_
              obtain rfl := Option.some.inj h
              exact r_ireturn rfl dX12_lot_87 (hp)
            · rw [if_neg c27] at h
              by_cases c30 : v2 = 4
              · rw [if_pos c30] at h
                refine r_tableIn 88 dX12_lot_34 c30 (by decide) (by decide) rfl (by decide) ?_
                refine r_aload_n 0 dX12_lot_88 rfl rfl ?_
                obtain ⟨x28, hx28, h⟩ := b1_some h
                refine r_callVi (k := 0) (rest := []) (by omega) (mX12_isOff hx28) sM_0 rfl rfl cb_X12_isOff ml_X12_391 im_X12_isOff se_X12_isOff rfl rfl (Nat.le_of_ble_eq_true rfl) dX12_lot_89 ?_
                refine r_if_eq 99 dX12_lot_92 (by decide) (fun c29 => ?_) (fun c29 => ?_)
                · rw [if_pos c29] at h
                  refine r_iconst (v := 0) dX12_lot_99 rfl ?_
                  obtain rfl := Option.some.inj h
                  exact r_ireturn rfl dX12_lot_100 (hp)
                · rw [if_neg c29] at h
                  refine r_iconst (v := 1) dX12_lot_95 rfl ?_
                  refine r_goto 100 dX12_lot_96 (by decide) ?_
                  obtain rfl := Option.some.inj h
                  exact r_ireturn rfl dX12_lot_100 (hp)
              · rw [if_neg c30] at h
                have nc24 : (v2 : Int32).toInt ≠ 0 := ne_toInt c24
                have nc25 : (v2 : Int32).toInt ≠ 1 := ne_toInt c25
                have nc26 : (v2 : Int32).toInt ≠ 2 := ne_toInt c26
                have nc27 : (v2 : Int32).toInt ≠ 3 := ne_toInt c27
                have nc30 : (v2 : Int32).toInt ≠ 4 := ne_toInt c30
                refine r_tableOut 101 dX12_lot_34 (by omega) (by decide) ?_
                refine r_aload_n 0 dX12_lot_101 rfl rfl ?_
                refine r_getI (k := 0) (j := 63) sM_0 rfl fl_X12_382 dX12_lot_102 ?_
                obtain rfl := Option.some.inj h
                exact r_ireturn rfl dX12_lot_105 (hp)
    · rw [if_pos c31] at h
      refine r_sipush (v := (-10000)) dX12_lot_24 rfl ?_
      obtain rfl := Option.some.inj h
      exact r_ireturn rfl dX12_lot_27 (hp)
theorem mX12_lot {G : Gx} {S : St} {v1 : Int32} {v2 : Int32} {o : (Int32 × St)}  (h : fX12_lot S v1 v2 = some o) : MR_ G shM 2 yX12_lot cX12_lot 3 (some .int) [.ref (ad_ G 0), .int v1, .int v2] S (PI_ o.1 o.2) := MR_of cb_X12_lot (Nat.le_of_ble_eq_true rfl) [(0, .ref (ad_ G 0)), (1, .int v1), (2, .int v2)] rfl (tX12_lot  h ⟨rfl, rfl⟩)
set_option maxRecDepth 100000 in
set_option maxHeartbeats 4000000 in
theorem tX12_worst {G : Gx} {post : Option Value → St → Prop} {S : St} {o : (Int32 × St)}  (h : fX12_worst S = some o) (hp : post (some (.int o.1)) o.2) : Rn G shM 2 yX12_worst cX12_worst 5 (some .int) 0 [(0, .ref (ad_ G 0))] [] S post := by
  unfold fX12_worst at h
  refine r_bipush (v := (-4)) dX12_worst_0 rfl ?_
  refine r_istore_n (i := 1) [(0, .ref (ad_ G 0)), (1, .int (-4))] [1, 0] dX12_worst_2 rfl (by decide) rfl ?_
  refine r_iconst (v := 0) dX12_worst_3 rfl ?_
  refine r_istore_n (i := 2) [(0, .ref (ad_ G 0)), (1, .int (-4)), (2, .int 0)] [1, 2, 0] dX12_worst_4 rfl (by decide) rfl ?_
  refine r_iconst (v := 1) dX12_worst_5 rfl ?_
  refine r_istore_n (i := 3) [(0, .ref (ad_ G 0)), (1, .int (-4)), (2, .int 0), (3, .int 1)] [1, 2, 3, 0] dX12_worst_6 rfl (by decide) rfl ?_
  refine r_iconst (v := 0) dX12_worst_7 rfl ?_
  refine r_istore (i := 4) [(0, .ref (ad_ G 0)), (1, .int (-4)), (2, .int 0), (3, .int 1), (4, .int 0)] [1, 2, 3, 4, 0] dX12_worst_8 (by decide) rfl ?_
  have key : ∀ ex, lp (fun w21 : Int32 × Int32 × Int32 × Int32 × St => bX12_worst_10  w21.1 w21.2.1 w21.2.2.1 w21.2.2.2.1 w21.2.2.2.2) 5000 ((-4), 0, 1, 0, S) = some ex → (fun u36 : Int32 × St => Rn G shM 2 yX12_worst cX12_worst 5 (some .int) 76 [(1, .int u36.1)] [] u36.2 post) ex → Rn G shM 2 yX12_worst cX12_worst 5 (some .int) 10 [(0, .ref (ad_ G 0)), (1, .int (-4)), (2, .int 0), (3, .int 1), (4, .int 0)] [] S post := by
    intro ex hl hx
    refine lp_rule (body := (fun w21 : Int32 × Int32 × Int32 × Int32 × St => bX12_worst_10  w21.1 w21.2.1 w21.2.2.1 w21.2.2.2.1 w21.2.2.2.2)) (R := (fun w21 : Int32 × Int32 × Int32 × Int32 × St => Rn G shM 2 yX12_worst cX12_worst 5 (some .int) 10 [(0, .ref (ad_ G 0)), (1, .int w21.1), (2, .int w21.2.1), (3, .int w21.2.2.1), (4, .int w21.2.2.2.1)] [] w21.2.2.2.2 post)) (X := (fun u36 : Int32 × St => Rn G shM 2 yX12_worst cX12_worst 5 (some .int) 76 [(1, .int u36.1)] [] u36.2 post)) ?_ 5000 ((-4), 0, 1, 0, S) ex hl hx
    intro w21 oo h hB hX
    obtain ⟨v22, v23, v24, v25, S26⟩ := w21
    replace h : bX12_worst_10  v22 v23 v24 v25 S26 = some oo := h
    unfold bX12_worst_10 at h
    show Rn G shM 2 yX12_worst cX12_worst 5 (some .int) 10 [(0, .ref (ad_ G 0)), (1, .int v22), (2, .int v23), (3, .int v24), (4, .int v25)] [] S26 post
    refine r_iload 4 dX12_worst_10 rfl ?_
    refine r_bipush (v := 6) dX12_worst_12 rfl ?_
    refine r_icmp_ge 76 dX12_worst_14 (by decide) (fun c35 => ?_) (fun c35 => ?_)
    · rw [if_pos c35] at h
      refine r_sub [(1, .int v22)] [1] rfl ?_
      obtain rfl := Option.some.inj h
      exact hX (v22, S26) rfl
    · rw [if_neg c35] at h
      refine r_aload_n 0 dX12_worst_17 rfl rfl ?_
      refine r_iload 4 dX12_worst_18 rfl ?_
      obtain ⟨S27, hS27, h⟩ := b1_some h
      refine r_callVv (k := 0) (rest := []) (by omega) (mX12_findLot hS27) sM_0 rfl rfl cb_X12_findLot ml_X12_388 im_X12_findLot se_X12_findLot rfl rfl (Nat.le_of_ble_eq_true rfl) dX12_worst_20 ?_
      refine r_aload_n 0 dX12_worst_23 rfl rfl ?_
      obtain ⟨x28, hx28, h⟩ := b1_some h
      refine r_callVi (k := 0) (rest := []) (by omega) (mX12_isOff hx28) sM_0 rfl rfl cb_X12_isOff ml_X12_391 im_X12_isOff se_X12_isOff rfl rfl (Nat.le_of_ble_eq_true rfl) dX12_worst_24 ?_
      refine r_if_eq 70 dX12_worst_27 (by decide) (fun c34 => ?_) (fun c34 => ?_)
      · rw [if_pos c34] at h
        refine r_iinc (v := v25 + 1) [(0, .ref (ad_ G 0)), (1, .int v22), (2, .int v23), (3, .int v24), (4, .int (v25 + 1))] 4 [1, 2, 3, 4, 0] dX12_worst_70 rfl rfl (by decide) rfl ?_
        refine r_goto 10 dX12_worst_73 (by decide) ?_
        obtain rfl := Option.some.inj h
        exact hB (v22, v23, v24, v25 + 1, S27) rfl
      · rw [if_neg c34] at h
        refine r_iload_n 1 dX12_worst_30 rfl rfl ?_
        refine r_bipush (v := (-4)) dX12_worst_31 rfl ?_
        refine r_icmp_eq 54 dX12_worst_33 (by decide) (fun c33 => ?_) (fun c33 => ?_)
        · rw [if_pos c33] at h
          refine r_iload 4 dX12_worst_54 rfl ?_
          refine r_istore_n (i := 1) [(0, .ref (ad_ G 0)), (1, .int v25), (2, .int v23), (3, .int v24), (4, .int v25)] [1, 0, 2, 3, 4] dX12_worst_56 rfl (by decide) rfl ?_
          refine r_aload_n 0 dX12_worst_57 rfl rfl ?_
          refine r_getI (k := 0) (j := 60) sM_0 rfl fl_X12_373 dX12_worst_58 ?_
          obtain ⟨x29, hx29, h⟩ := b1_some h
          refine r_callSi (rest := []) (by omega) (mX12_plain hx29) cb_X12_plain ml_X12_385 sm_X12_plain rfl rfl (Nat.le_of_ble_eq_true rfl) dX12_worst_61 ?_
          refine r_istore_n (i := 2) [(0, .ref (ad_ G 0)), (1, .int v25), (2, .int x29), (3, .int v24), (4, .int v25)] [1, 2, 0, 3, 4] dX12_worst_64 rfl (by decide) rfl ?_
          refine r_aload_n 0 dX12_worst_65 rfl rfl ?_
          refine r_getI (k := 0) (j := 59) sM_0 rfl fl_X12_370 dX12_worst_66 ?_
          refine r_istore_n (i := 3) [(0, .ref (ad_ G 0)), (1, .int v25), (2, .int x29), (3, .int (gI_ S27 0 59)), (4, .int v25)] [1, 2, 3, 0, 4] dX12_worst_69 rfl (by decide) rfl ?_
          refine r_iinc (v := v25 + 1) [(0, .ref (ad_ G 0)), (1, .int v25), (2, .int x29), (3, .int (gI_ S27 0 59)), (4, .int (v25 + 1))] 4 [1, 2, 3, 4, 0] dX12_worst_70 rfl rfl (by decide) rfl ?_
          refine r_goto 10 dX12_worst_73 (by decide) ?_
          obtain rfl := Option.some.inj h
          exact hB (v25, x29, gI_ S27 0 59, v25 + 1, S27) rfl
        · rw [if_neg c33] at h
          refine r_aload_n 0 dX12_worst_36 rfl rfl ?_
          refine r_getI (k := 0) (j := 60) sM_0 rfl fl_X12_373 dX12_worst_37 ?_
          obtain ⟨x30, hx30, h⟩ := b1_some h
          refine r_callSi (rest := []) (by omega) (mX12_plain hx30) cb_X12_plain ml_X12_385 sm_X12_plain rfl rfl (Nat.le_of_ble_eq_true rfl) dX12_worst_40 ?_
          refine r_iload_n 3 dX12_worst_43 rfl rfl ?_
          refine r_imul dX12_worst_44 ?_
          refine r_iload_n 2 dX12_worst_45 rfl rfl ?_
          refine r_aload_n 0 dX12_worst_46 rfl rfl ?_
          refine r_getI (k := 0) (j := 59) sM_0 rfl fl_X12_370 dX12_worst_47 ?_
          refine r_imul dX12_worst_50 ?_
          refine r_icmp_le 70 dX12_worst_51 (by decide) (fun c32 => ?_) (fun c32 => ?_)
          · rw [if_pos c32] at h
            refine r_iinc (v := v25 + 1) [(0, .ref (ad_ G 0)), (1, .int v22), (2, .int v23), (3, .int v24), (4, .int (v25 + 1))] 4 [1, 2, 3, 4, 0] dX12_worst_70 rfl rfl (by decide) rfl ?_
            refine r_goto 10 dX12_worst_73 (by decide) ?_
            obtain rfl := Option.some.inj h
            exact hB (v22, v23, v24, v25 + 1, S27) rfl
          · rw [if_neg c32] at h
            refine r_iload 4 dX12_worst_54 rfl ?_
            refine r_istore_n (i := 1) [(0, .ref (ad_ G 0)), (1, .int v25), (2, .int v23), (3, .int v24), (4, .int v25)] [1, 0, 2, 3, 4] dX12_worst_56 rfl (by decide) rfl ?_
            refine r_aload_n 0 dX12_worst_57 rfl rfl ?_
            refine r_getI (k := 0) (j := 60) sM_0 rfl fl_X12_373 dX12_worst_58 ?_
            obtain ⟨x31, hx31, h⟩ := b1_some h
            refine r_callSi (rest := []) (by omega) (mX12_plain hx31) cb_X12_plain ml_X12_385 sm_X12_plain rfl rfl (Nat.le_of_ble_eq_true rfl) dX12_worst_61 ?_
            refine r_istore_n (i := 2) [(0, .ref (ad_ G 0)), (1, .int v25), (2, .int x31), (3, .int v24), (4, .int v25)] [1, 2, 0, 3, 4] dX12_worst_64 rfl (by decide) rfl ?_
            refine r_aload_n 0 dX12_worst_65 rfl rfl ?_
            refine r_getI (k := 0) (j := 59) sM_0 rfl fl_X12_370 dX12_worst_66 ?_
            refine r_istore_n (i := 3) [(0, .ref (ad_ G 0)), (1, .int v25), (2, .int x31), (3, .int (gI_ S27 0 59)), (4, .int v25)] [1, 2, 3, 0, 4] dX12_worst_69 rfl (by decide) rfl ?_
            refine r_iinc (v := v25 + 1) [(0, .ref (ad_ G 0)), (1, .int v25), (2, .int x31), (3, .int (gI_ S27 0 59)), (4, .int (v25 + 1))] 4 [1, 2, 3, 4, 0] dX12_worst_70 rfl rfl (by decide) rfl ?_
            refine r_goto 10 dX12_worst_73 (by decide) ?_
            obtain rfl := Option.some.inj h
            exact hB (v25, x31, gI_ S27 0 59, v25 + 1, S27) rfl
  obtain ⟨u36, hu36, h⟩ := b1_some h
  refine key u36 hu36 ?_
  show Rn G shM 2 yX12_worst cX12_worst 5 (some .int) 76 [(1, .int u36.1)] [] u36.2 post
  refine r_iload_n 0 dX12_worst_76 rfl rfl ?_
  obtain rfl := Option.some.inj h
  exact r_ireturn rfl dX12_worst_77 (hp)
theorem mX12_worst {G : Gx} {S : St} {o : (Int32 × St)}  (h : fX12_worst S = some o) : MR_ G shM 2 yX12_worst cX12_worst 5 (some .int) [.ref (ad_ G 0)] S (PI_ o.1 o.2) := MR_of cb_X12_worst (Nat.le_of_ble_eq_true rfl) [(0, .ref (ad_ G 0))] rfl (tX12_worst  h ⟨rfl, rfl⟩)
set_option maxRecDepth 100000 in
set_option maxHeartbeats 4000000 in
theorem tX12_isSheet {G : Gx} {post : Option Value → St → Prop} {S : St} {v0 : Int32} {v1 : Int32} {o : Int32}  (h : fX12_isSheet S v0 v1 = some o) (hp : post (some (.int o)) S) : Rn G shM 1 yX12_isSheet cX12_isSheet 2 (some .boolean) 0 [(0, .int v0), (1, .int v1)] [] S post := by
  unfold fX12_isSheet at h
  refine r_iload_n 0 dX12_isSheet_0 rfl rfl ?_
  refine r_i2l dX12_isSheet_1 ?_
  refine r_lconst (v := 0) dX12_isSheet_2 rfl ?_
  refine r_ldc2 kl_X12_216 dX12_isSheet_3 ?_
  obtain ⟨x21, hx21, h⟩ := b1_some h
  refine r_callSi (rest := []) (by omega) (mX12_in hx21) cb_X12_in ml_X12_145 sm_X12_in rfl rfl (Nat.le_of_ble_eq_true rfl) dX12_isSheet_6 ?_
  refine r_if_eq 28 dX12_isSheet_9 (by decide) (fun c24 => ?_) (fun c24 => ?_)
  · rw [if_pos c24] at h
    refine r_iconst (v := 0) dX12_isSheet_28 rfl ?_
    obtain rfl := Option.some.inj h
    exact r_zreturn rfl (by decide) dX12_isSheet_29 (hp)
  · rw [if_neg c24] at h
    refine r_iload_n 1 dX12_isSheet_12 rfl rfl ?_
    refine r_i2l dX12_isSheet_13 ?_
    refine r_lconst (v := 0) dX12_isSheet_14 rfl ?_
    refine r_ldc2 kl_X12_355 dX12_isSheet_15 ?_
    obtain ⟨x22, hx22, h⟩ := b1_some h
    refine r_callSi (rest := []) (by omega) (mX12_in hx22) cb_X12_in ml_X12_145 sm_X12_in rfl rfl (Nat.le_of_ble_eq_true rfl) dX12_isSheet_18 ?_
    refine r_if_eq 28 dX12_isSheet_21 (by decide) (fun c23 => ?_) (fun c23 => ?_)
    · rw [if_pos c23] at h
      refine r_iconst (v := 0) dX12_isSheet_28 rfl ?_
      obtain rfl := Option.some.inj h
      exact r_zreturn rfl (by decide) dX12_isSheet_29 (hp)
    · rw [if_neg c23] at h
      refine r_iconst (v := 1) dX12_isSheet_24 rfl ?_
      refine r_goto 29 dX12_isSheet_25 (by decide) ?_
      obtain rfl := Option.some.inj h
      exact r_zreturn rfl (by decide) dX12_isSheet_29 (hp)
theorem mX12_isSheet {G : Gx} {S : St} {v0 : Int32} {v1 : Int32} {o : Int32}  (h : fX12_isSheet S v0 v1 = some o) : MR_ G shM 1 yX12_isSheet cX12_isSheet 2 (some .boolean) [.int v0, .int v1] S (PI_ o S) := MR_of cb_X12_isSheet (Nat.le_of_ble_eq_true rfl) [(0, .int v0), (1, .int v1)] rfl (tX12_isSheet  h ⟨rfl, rfl⟩)
set_option maxRecDepth 100000 in
set_option maxHeartbeats 4000000 in
theorem tX12_sheet {G : Gx} {post : Option Value → St → Prop} {S : St} {v1 : Int32} {v2 : Int32} {v3 : Int32} {o : (Int32 × St)}  (h : fX12_sheet S v1 v2 v3 = some o) (hp : post (some (.int o.1)) o.2) : Rn G shM 2 yX12_sheet cX12_sheet 5 (some .int) 0 [(0, .ref (ad_ G 0)), (1, .int v1), (2, .int v2), (3, .int v3)] [] S post := by
  unfold fX12_sheet at h
  refine r_iload_n 1 dX12_sheet_0 rfl rfl ?_
  refine r_iload_n 2 dX12_sheet_1 rfl rfl ?_
  obtain ⟨x21, hx21, h⟩ := b1_some h
  refine r_callSi (rest := []) (by omega) (mX12_isSheet hx21) cb_X12_isSheet ml_X12_395 sm_X12_isSheet rfl rfl (Nat.le_of_ble_eq_true rfl) dX12_sheet_2 ?_
  refine r_if_eq 14 dX12_sheet_5 (by decide) (fun c32 => ?_) (fun c32 => ?_)
  · rw [if_pos c32] at h
    refine r_iconst (v := (-1)) dX12_sheet_14 rfl ?_
    obtain rfl := Option.some.inj h
    exact r_ireturn rfl dX12_sheet_15 (hp)
  · rw [if_neg c32] at h
    refine r_iload_n 3 dX12_sheet_8 rfl rfl ?_
    refine r_bipush (v := 64) dX12_sheet_9 rfl ?_
    refine r_icmp_le 16 dX12_sheet_11 (by decide) (fun c31 => ?_) (fun c31 => ?_)
    · rw [if_pos c31] at h
      refine r_iload_n 3 dX12_sheet_16 rfl rfl ?_
      refine r_if_ge 23 dX12_sheet_17 (by decide) (fun c30 => ?_) (fun c30 => ?_)
      · rw [if_pos c30] at h
        refine r_aload_n 0 dX12_sheet_23 rfl rfl ?_
        refine r_getC (k := 0) (j := 64) (r := 39) sM_0 rfl fl_X12_133 dX12_sheet_24 ?_
        refine r_iload_n 1 dX12_sheet_27 rfl rfl ?_
        refine r_iload_n 2 dX12_sheet_28 rfl rfl ?_
        obtain ⟨S22, hS22, h⟩ := b1_some h
        refine r_iastore sM_39 hS22 dX12_sheet_29 ?_
        refine r_aload_n 0 dX12_sheet_30 rfl rfl ?_
        refine r_getC (k := 0) (j := 65) (r := 40) sM_0 rfl fl_X12_136 dX12_sheet_31 ?_
        refine r_iload_n 1 dX12_sheet_34 rfl rfl ?_
        refine r_iload_n 3 dX12_sheet_35 rfl rfl ?_
        obtain ⟨S23, hS23, h⟩ := b1_some h
        refine r_iastore sM_40 hS23 dX12_sheet_36 ?_
        refine r_iconst (v := 0) dX12_sheet_37 rfl ?_
        refine r_istore (i := 4) [(0, .ref (ad_ G 0)), (1, .int v1), (2, .int v2), (3, .int v3), (4, .int 0)] [1, 2, 3, 4, 0] dX12_sheet_38 (by decide) rfl ?_
        refine r_sub [(0, .ref (ad_ G 0)), (1, .int v1), (4, .int 0)] [0, 1, 4] rfl ?_
        have key : ∀ ex, lp (fun w24 : Int32 × St => bX12_sheet_40 v1 w24.1 w24.2) 5000 (0, S23) = some ex → (fun u29 : St => Rn G shM 2 yX12_sheet cX12_sheet 5 (some .int) 66 [] [] u29 post) ex → Rn G shM 2 yX12_sheet cX12_sheet 5 (some .int) 40 [(0, .ref (ad_ G 0)), (1, .int v1), (4, .int 0)] [] S23 post := by
          intro ex hl hx
          refine lp_rule (body := (fun w24 : Int32 × St => bX12_sheet_40 v1 w24.1 w24.2)) (R := (fun w24 : Int32 × St => Rn G shM 2 yX12_sheet cX12_sheet 5 (some .int) 40 [(0, .ref (ad_ G 0)), (1, .int v1), (4, .int w24.1)] [] w24.2 post)) (X := (fun u29 : St => Rn G shM 2 yX12_sheet cX12_sheet 5 (some .int) 66 [] [] u29 post)) ?_ 5000 (0, S23) ex hl hx
          intro w24 oo h hB hX
          obtain ⟨v25, S26⟩ := w24
          replace h : bX12_sheet_40 v1 v25 S26 = some oo := h
          unfold bX12_sheet_40 at h
          show Rn G shM 2 yX12_sheet cX12_sheet 5 (some .int) 40 [(0, .ref (ad_ G 0)), (1, .int v1), (4, .int v25)] [] S26 post
          refine r_iload 2 dX12_sheet_40 rfl ?_
          refine r_bipush (v := 64) dX12_sheet_42 rfl ?_
          refine r_icmp_ge 66 dX12_sheet_44 (by decide) (fun c28 => ?_) (fun c28 => ?_)
          · rw [if_pos c28] at h
            refine r_sub [] [] rfl ?_
            obtain rfl := Option.some.inj h
            exact hX S26 rfl
          · rw [if_neg c28] at h
            refine r_aload_n 0 dX12_sheet_47 rfl rfl ?_
            refine r_getC (k := 0) (j := 66) (r := 41) sM_0 rfl fl_X12_139 dX12_sheet_48 ?_
            refine r_bipush (v := 64) dX12_sheet_51 rfl ?_
            refine r_iload_n 1 dX12_sheet_53 rfl rfl ?_
            refine r_imul dX12_sheet_54 ?_
            refine r_iload 2 dX12_sheet_55 rfl ?_
            refine r_iadd dX12_sheet_57 ?_
            refine r_iconst (v := 0) dX12_sheet_58 rfl ?_
            obtain ⟨S27, hS27, h⟩ := b1_some h
            refine r_iastore sM_41 hS27 dX12_sheet_59 ?_
            refine r_iinc (v := v25 + 1) [(0, .ref (ad_ G 0)), (1, .int v1), (4, .int (v25 + 1))] 2 [1, 2, 0] dX12_sheet_60 rfl rfl (by decide) rfl ?_
            refine r_goto 40 dX12_sheet_63 (by decide) ?_
            obtain rfl := Option.some.inj h
            exact hB (v25 + 1, S27) rfl
        obtain ⟨u29, hu29, h⟩ := b1_some h
        refine key u29 hu29 ?_
        show Rn G shM 2 yX12_sheet cX12_sheet 5 (some .int) 66 [] [] u29 post
        refine r_iconst (v := 1) dX12_sheet_66 rfl ?_
        obtain rfl := Option.some.inj h
        exact r_ireturn rfl dX12_sheet_67 (hp)
      · rw [if_neg c30] at h
        refine r_bipush (v := (-14)) dX12_sheet_20 rfl ?_
        obtain rfl := Option.some.inj h
        exact r_ireturn rfl dX12_sheet_22 (hp)
    · rw [if_neg c31] at h
      refine r_iconst (v := (-1)) dX12_sheet_14 rfl ?_
      obtain rfl := Option.some.inj h
      exact r_ireturn rfl dX12_sheet_15 (hp)
theorem mX12_sheet {G : Gx} {S : St} {v1 : Int32} {v2 : Int32} {v3 : Int32} {o : (Int32 × St)}  (h : fX12_sheet S v1 v2 v3 = some o) : MR_ G shM 2 yX12_sheet cX12_sheet 5 (some .int) [.ref (ad_ G 0), .int v1, .int v2, .int v3] S (PI_ o.1 o.2) := MR_of cb_X12_sheet (Nat.le_of_ble_eq_true rfl) [(0, .ref (ad_ G 0)), (1, .int v1), (2, .int v2), (3, .int v3)] rfl (tX12_sheet  h ⟨rfl, rfl⟩)
set_option maxRecDepth 100000 in
set_option maxHeartbeats 4000000 in
theorem tX12_lay {G : Gx} {post : Option Value → St → Prop} {S : St} {v1 : Int32} {v2 : Int32} {v3 : Int32} {o : (Int32 × St)}  (h : fX12_lay S v1 v2 v3 = some o) (hp : post (some (.int o.1)) o.2) : Rn G shM 2 yX12_lay cX12_lay 4 (some .int) 0 [(0, .ref (ad_ G 0)), (1, .int v1), (2, .int v2), (3, .int v3)] [] S post := by
  unfold fX12_lay at h
  refine r_iload_n 1 dX12_lay_0 rfl rfl ?_
  refine r_iconst (v := 0) dX12_lay_1 rfl ?_
  obtain ⟨x21, hx21, h⟩ := b1_some h
  refine r_callSi (rest := []) (by omega) (mX12_isSheet hx21) cb_X12_isSheet ml_X12_395 sm_X12_isSheet rfl rfl (Nat.le_of_ble_eq_true rfl) dX12_lay_2 ?_
  refine r_if_ne 10 dX12_lay_5 (by decide) (fun c34 => ?_) (fun c34 => ?_)
  · rw [if_neg c34] at h
    refine r_aload_n 0 dX12_lay_10 rfl rfl ?_
    refine r_getC (k := 0) (j := 64) (r := 39) sM_0 rfl fl_X12_133 dX12_lay_11 ?_
    refine r_iload_n 1 dX12_lay_14 rfl rfl ?_
    obtain ⟨x22, hx22, h⟩ := b1_some h
    refine r_iaload sM_39 hx22 dX12_lay_15 ?_
    refine r_bipush (v := (-4)) dX12_lay_16 rfl ?_
    refine r_icmp_ne 24 dX12_lay_18 (by decide) (fun c33 => ?_) (fun c33 => ?_)
    · rw [if_neg c33] at h
      refine r_iload_n 2 dX12_lay_24 rfl rfl ?_
      refine r_i2l dX12_lay_25 ?_
      refine r_lconst (v := 0) dX12_lay_26 rfl ?_
      refine r_aload_n 0 dX12_lay_27 rfl rfl ?_
      refine r_getC (k := 0) (j := 65) (r := 40) sM_0 rfl fl_X12_136 dX12_lay_28 ?_
      refine r_iload_n 1 dX12_lay_31 rfl rfl ?_
      obtain ⟨x23, hx23, h⟩ := b1_some h
      refine r_iaload sM_40 hx23 dX12_lay_32 ?_
      refine r_iconst (v := 1) dX12_lay_33 rfl ?_
      refine r_isub dX12_lay_34 ?_
      refine r_i2l dX12_lay_35 ?_
      obtain ⟨x24, hx24, h⟩ := b1_some h
      refine r_callSi (rest := []) (by omega) (mX12_in hx24) cb_X12_in ml_X12_145 sm_X12_in rfl rfl (Nat.le_of_ble_eq_true rfl) dX12_lay_36 ?_
      refine r_if_ne 45 dX12_lay_39 (by decide) (fun c32 => ?_) (fun c32 => ?_)
      · rw [if_neg c32] at h
        refine r_aload_n 0 dX12_lay_45 rfl rfl ?_
        refine r_getC (k := 0) (j := 66) (r := 41) sM_0 rfl fl_X12_139 dX12_lay_46 ?_
        refine r_bipush (v := 64) dX12_lay_49 rfl ?_
        refine r_iload_n 1 dX12_lay_51 rfl rfl ?_
        refine r_imul dX12_lay_52 ?_
        refine r_iload_n 2 dX12_lay_53 rfl rfl ?_
        refine r_iadd dX12_lay_54 ?_
        refine r_aload_n 0 dX12_lay_55 rfl rfl ?_
        refine r_getC (k := 0) (j := 64) (r := 39) sM_0 rfl fl_X12_133 dX12_lay_56 ?_
        refine r_iload_n 1 dX12_lay_59 rfl rfl ?_
        obtain ⟨x25, hx25, h⟩ := b1_some h
        refine r_iaload sM_39 hx25 dX12_lay_60 ?_
        refine r_if_ne 69 dX12_lay_61 (by decide) (fun c31 => ?_) (fun c31 => ?_)
        · rw [if_neg c31] at h
          refine r_aload_n 0 dX12_lay_69 rfl rfl ?_
          refine r_getC (k := 0) (j := 64) (r := 39) sM_0 rfl fl_X12_133 dX12_lay_70 ?_
          refine r_iload_n 1 dX12_lay_73 rfl rfl ?_
          obtain ⟨x26, hx26, h⟩ := b1_some h
          refine r_iaload sM_39 hx26 dX12_lay_74 ?_
          refine r_iconst (v := 1) dX12_lay_75 rfl ?_
          refine r_icmp_ne 84 dX12_lay_76 (by decide) (fun c29 => ?_) (fun c29 => ?_)
          · rw [if_neg c29] at h
            refine r_iload_n 3 dX12_lay_84 rfl rfl ?_
            obtain ⟨S27, hS27, h⟩ := b1_some h
            refine r_iastore sM_41 hS27 dX12_lay_85 ?_
            refine r_iconst (v := 1) dX12_lay_86 rfl ?_
            obtain rfl := Option.some.inj h
            exact r_ireturn rfl dX12_lay_87 (hp)
          · rw [if_pos c29] at h
            refine r_iload_n 3 dX12_lay_79 rfl rfl ?_
            refine r_i2s dX12_lay_80 ?_
            refine r_goto 85 dX12_lay_81 (by decide) ?_
            obtain ⟨S28, hS28, h⟩ := b1_some h
            refine r_iastore sM_41 hS28 dX12_lay_85 ?_
            refine r_iconst (v := 1) dX12_lay_86 rfl ?_
            obtain rfl := Option.some.inj h
            exact r_ireturn rfl dX12_lay_87 (hp)
        · rw [if_pos c31] at h
          refine r_iload_n 3 dX12_lay_64 rfl rfl ?_
          refine r_i2b dX12_lay_65 ?_
          refine r_goto 85 dX12_lay_66 (by decide) ?_
          obtain ⟨S30, hS30, h⟩ := b1_some h
          refine r_iastore sM_41 hS30 dX12_lay_85 ?_
          refine r_iconst (v := 1) dX12_lay_86 rfl ?_
          obtain rfl := Option.some.inj h
          exact r_ireturn rfl dX12_lay_87 (hp)
      · rw [if_pos c32] at h
        refine r_bipush (v := (-12)) dX12_lay_42 rfl ?_
        obtain rfl := Option.some.inj h
        exact r_ireturn rfl dX12_lay_44 (hp)
    · rw [if_pos c33] at h
      refine r_bipush (v := (-11)) dX12_lay_21 rfl ?_
      obtain rfl := Option.some.inj h
      exact r_ireturn rfl dX12_lay_23 (hp)
  · rw [if_pos c34] at h
    refine r_iconst (v := (-1)) dX12_lay_8 rfl ?_
    obtain rfl := Option.some.inj h
    exact r_ireturn rfl dX12_lay_9 (hp)
theorem mX12_lay {G : Gx} {S : St} {v1 : Int32} {v2 : Int32} {v3 : Int32} {o : (Int32 × St)}  (h : fX12_lay S v1 v2 v3 = some o) : MR_ G shM 2 yX12_lay cX12_lay 4 (some .int) [.ref (ad_ G 0), .int v1, .int v2, .int v3] S (PI_ o.1 o.2) := MR_of cb_X12_lay (Nat.le_of_ble_eq_true rfl) [(0, .ref (ad_ G 0)), (1, .int v1), (2, .int v2), (3, .int v3)] rfl (tX12_lay  h ⟨rfl, rfl⟩)
set_option maxRecDepth 100000 in
set_option maxHeartbeats 4000000 in
theorem tX12_crackMany {G : Gx} {post : Option Value → St → Prop} {S : St} {o : Int32}  (h : fX12_crackMany S = some o) (hp : post (some (.int o)) S) : Rn G shM 0 yX12_crackMany cX12_crackMany 3 (some .int) 0 [(0, .ref (ad_ G 0))] [] S post := by
  unfold fX12_crackMany at h
  refine r_iconst (v := 0) dX12_crackMany_0 rfl ?_
  refine r_istore_n (i := 1) [(0, .ref (ad_ G 0)), (1, .int 0)] [1, 0] dX12_crackMany_1 rfl (by decide) rfl ?_
  refine r_iconst (v := 0) dX12_crackMany_2 rfl ?_
  refine r_istore_n (i := 2) [(0, .ref (ad_ G 0)), (1, .int 0), (2, .int 0)] [1, 2, 0] dX12_crackMany_3 rfl (by decide) rfl ?_
  have key : ∀ ex, lp (fun w21 : Int32 × Int32 => bX12_crackMany_4 S w21.1 w21.2) 5000 (0, 0) = some ex → (fun u27 : Int32 => Rn G shM 0 yX12_crackMany cX12_crackMany 3 (some .int) 33 [(1, .int u27)] [] S post) ex → Rn G shM 0 yX12_crackMany cX12_crackMany 3 (some .int) 4 [(0, .ref (ad_ G 0)), (1, .int 0), (2, .int 0)] [] S post := by
    intro ex hl hx
    refine lp_rule (body := (fun w21 : Int32 × Int32 => bX12_crackMany_4 S w21.1 w21.2)) (R := (fun w21 : Int32 × Int32 => Rn G shM 0 yX12_crackMany cX12_crackMany 3 (some .int) 4 [(0, .ref (ad_ G 0)), (1, .int w21.1), (2, .int w21.2)] [] S post)) (X := (fun u27 : Int32 => Rn G shM 0 yX12_crackMany cX12_crackMany 3 (some .int) 33 [(1, .int u27)] [] S post)) ?_ 5000 (0, 0) ex hl hx
    intro w21 oo h hB hX
    obtain ⟨v22, v23⟩ := w21
    replace h : bX12_crackMany_4 S v22 v23 = some oo := h
    unfold bX12_crackMany_4 at h
    show Rn G shM 0 yX12_crackMany cX12_crackMany 3 (some .int) 4 [(0, .ref (ad_ G 0)), (1, .int v22), (2, .int v23)] [] S post
    refine r_iload_n 2 dX12_crackMany_4 rfl rfl ?_
    refine r_bipush (v := 64) dX12_crackMany_5 rfl ?_
    refine r_icmp_ge 33 dX12_crackMany_7 (by decide) (fun c26 => ?_) (fun c26 => ?_)
    · rw [if_pos c26] at h
      refine r_sub [(1, .int v22)] [1] rfl ?_
      obtain rfl := Option.some.inj h
      exact hX v22 rfl
    · rw [if_neg c26] at h
      refine r_iload_n 1 dX12_crackMany_10 rfl rfl ?_
      refine r_aload_n 0 dX12_crackMany_11 rfl rfl ?_
      refine r_getC (k := 0) (j := 2) (r := 1) sM_0 rfl fl_X12_16 dX12_crackMany_12 ?_
      refine r_iload_n 2 dX12_crackMany_15 rfl rfl ?_
      obtain ⟨x24, hx24, h⟩ := b1_some h
      refine r_zaload sM_1 hx24 dX12_crackMany_16 ?_
      refine r_if_eq 24 dX12_crackMany_17 (by decide) (fun c25 => ?_) (fun c25 => ?_)
      · rw [if_pos c25] at h
        refine r_iconst (v := 0) dX12_crackMany_24 rfl ?_
        refine r_iadd dX12_crackMany_25 ?_
        refine r_istore_n (i := 1) [(0, .ref (ad_ G 0)), (1, .int (v22 + 0)), (2, .int v23)] [1, 0, 2] dX12_crackMany_26 rfl (by decide) rfl ?_
        refine r_iinc (v := v23 + 1) [(0, .ref (ad_ G 0)), (1, .int (v22 + 0)), (2, .int (v23 + 1))] 2 [1, 2, 0] dX12_crackMany_27 rfl rfl (by decide) rfl ?_
        refine r_goto 4 dX12_crackMany_30 (by decide) ?_
        obtain rfl := Option.some.inj h
        exact hB (v22 + 0, v23 + 1) rfl
      · rw [if_neg c25] at h
        refine r_iconst (v := 1) dX12_crackMany_20 rfl ?_
        refine r_goto 25 dX12_crackMany_21 (by decide) ?_
        refine r_iadd dX12_crackMany_25 ?_
        refine r_istore_n (i := 1) [(0, .ref (ad_ G 0)), (1, .int (v22 + 1)), (2, .int v23)] [1, 0, 2] dX12_crackMany_26 rfl (by decide) rfl ?_
        refine r_iinc (v := v23 + 1) [(0, .ref (ad_ G 0)), (1, .int (v22 + 1)), (2, .int (v23 + 1))] 2 [1, 2, 0] dX12_crackMany_27 rfl rfl (by decide) rfl ?_
        refine r_goto 4 dX12_crackMany_30 (by decide) ?_
        obtain rfl := Option.some.inj h
        exact hB (v22 + 1, v23 + 1) rfl
  obtain ⟨u27, hu27, h⟩ := b1_some h
  refine key u27 hu27 ?_
  show Rn G shM 0 yX12_crackMany cX12_crackMany 3 (some .int) 33 [(1, .int u27)] [] S post
  refine r_iload_n 0 dX12_crackMany_33 rfl rfl ?_
  obtain rfl := Option.some.inj h
  exact r_ireturn rfl dX12_crackMany_34 (hp)
theorem mX12_crackMany {G : Gx} {S : St} {o : Int32}  (h : fX12_crackMany S = some o) : MR_ G shM 0 yX12_crackMany cX12_crackMany 3 (some .int) [.ref (ad_ G 0)] S (PI_ o S) := MR_of cb_X12_crackMany (Nat.le_of_ble_eq_true rfl) [(0, .ref (ad_ G 0))] rfl (tX12_crackMany  h ⟨rfl, rfl⟩)
set_option maxRecDepth 100000 in
set_option maxHeartbeats 4000000 in
theorem tX12_draw {G : Gx} {post : Option Value → St → Prop} {S : St} {v1 : Int32} {v2 : Int32} {v3 : Int32} {o : (Int32 × St)}  (h : fX12_draw S v1 v2 v3 = some o) (hp : post (some (.int o.1)) o.2) : Rn G shM 2 yX12_draw cX12_draw 7 (some .int) 0 [(0, .ref (ad_ G 0)), (1, .int v1), (2, .int v2), (3, .int v3)] [] S post := by
  unfold fX12_draw at h
  refine r_iload_n 1 dX12_draw_0 rfl rfl ?_
  refine r_iload_n 2 dX12_draw_1 rfl rfl ?_
  obtain ⟨x21, hx21, h⟩ := b1_some h
  refine r_callSi (rest := []) (by omega) (mX12_isSheet hx21) cb_X12_isSheet ml_X12_395 sm_X12_isSheet rfl rfl (Nat.le_of_ble_eq_true rfl) dX12_draw_2 ?_
  refine r_if_ne 10 dX12_draw_5 (by decide) (fun c54 => ?_) (fun c54 => ?_)
  · rw [if_neg c54] at h
    refine r_aload_n 0 dX12_draw_10 rfl rfl ?_
    refine r_getC (k := 0) (j := 64) (r := 39) sM_0 rfl fl_X12_133 dX12_draw_11 ?_
    refine r_iload_n 1 dX12_draw_14 rfl rfl ?_
    obtain ⟨x22, hx22, h⟩ := b1_some h
    refine r_iaload sM_39 hx22 dX12_draw_15 ?_
    refine r_iload_n 2 dX12_draw_16 rfl rfl ?_
    refine r_icmp_eq 39 dX12_draw_17 (by decide) (fun c53 => ?_) (fun c53 => ?_)
    · rw [if_pos c53] at h
      refine r_iconst (v := 0) dX12_draw_39 rfl ?_
      refine r_istore (i := 4) [(0, .ref (ad_ G 0)), (1, .int v1), (2, .int v2), (3, .int v3), (4, .int 0)] [1, 2, 3, 4, 0] dX12_draw_40 (by decide) rfl ?_
      refine r_sub [(0, .ref (ad_ G 0)), (1, .int v1), (3, .int v3), (4, .int 0)] [0, 1, 3, 4] rfl ?_
      have key : ∀ ex, lp (fun w23 : Int32 => bX12_draw_42 S v1 v3 w23) 5000 0 = some ex → (fun ex : (Unit) ⊕ (Int32 × St) => match ex with | .inl u33 => Rn G shM 2 yX12_draw cX12_draw 7 (some .int) 123 [(0, .ref (ad_ G 0)), (1, .int v1), (3, .int v3)] [] S post | .inr rr => post (some (.int rr.1)) rr.2) ex → Rn G shM 2 yX12_draw cX12_draw 7 (some .int) 42 [(0, .ref (ad_ G 0)), (1, .int v1), (3, .int v3), (4, .int 0)] [] S post := by
        intro ex hl hx
        refine lp_rule (body := (fun w23 : Int32 => bX12_draw_42 S v1 v3 w23)) (R := (fun w23 : Int32 => Rn G shM 2 yX12_draw cX12_draw 7 (some .int) 42 [(0, .ref (ad_ G 0)), (1, .int v1), (3, .int v3), (4, .int w23)] [] S post)) (X := (fun ex : (Unit) ⊕ (Int32 × St) => match ex with | .inl u33 => Rn G shM 2 yX12_draw cX12_draw 7 (some .int) 123 [(0, .ref (ad_ G 0)), (1, .int v1), (3, .int v3)] [] S post | .inr rr => post (some (.int rr.1)) rr.2)) ?_ 5000 0 ex hl hx
        intro w23 oo h hB hX
        obtain ⟨v24, rfl⟩ : ∃ z, z = w23 := ⟨_, rfl⟩
        replace h : bX12_draw_42 S v1 v3 v24 = some oo := h
        unfold bX12_draw_42 at h
        show Rn G shM 2 yX12_draw cX12_draw 7 (some .int) 42 [(0, .ref (ad_ G 0)), (1, .int v1), (3, .int v3), (4, .int v24)] [] S post
        refine r_iload 3 dX12_draw_42 rfl ?_
        refine r_aload_n 0 dX12_draw_44 rfl rfl ?_
        refine r_getI (k := 0) (j := 0) sM_0 rfl fl_X12_7 dX12_draw_45 ?_
        refine r_aload_n 0 dX12_draw_48 rfl rfl ?_
        refine r_getI (k := 0) (j := 1) sM_0 rfl fl_X12_13 dX12_draw_49 ?_
        refine r_imul dX12_draw_52 ?_
        refine r_icmp_ge 123 dX12_draw_53 (by decide) (fun c32 => ?_) (fun c32 => ?_)
        · rw [if_pos c32] at h
          refine r_sub [(0, .ref (ad_ G 0)), (1, .int v1), (3, .int v3)] [0, 1, 2] rfl ?_
          obtain rfl := Option.some.inj h
          exact hX (.inl ()) rfl
        · rw [if_neg c32] at h
          refine r_iload_n 2 dX12_draw_56 rfl rfl ?_
          refine r_i2l dX12_draw_57 ?_
          refine r_iload 3 dX12_draw_58 rfl ?_
          refine r_i2l dX12_draw_60 ?_
          refine r_ladd dX12_draw_61 ?_
          obtain ⟨x25, hx25, h⟩ := b1_some h
          rw [Option.some.inj hx25]
          refine r_lstore (i := 5) [(0, .ref (ad_ G 0)), (1, .int v1), (3, .int v3), (4, .int v24), (5, .long x25)] [1, 2, 3, 4, 0] dX12_draw_62 (by decide) rfl ?_
          refine r_lload 4 dX12_draw_64 rfl ?_
          refine r_lconst (v := 0) dX12_draw_66 rfl ?_
          refine r_lcmp dX12_draw_67 ?_
          refine r_if_lt 84 dX12_draw_68 (by decide) (fun c31 => ?_) (fun c31 => ?_)
          · rw [if_pos c31] at h
            refine r_bipush (v := (-12)) dX12_draw_84 rfl ?_
            obtain rfl := Option.some.inj h
            exact r_ireturn rfl dX12_draw_86 (hX (.inr ((-12), S)) rfl)
          · rw [if_neg c31] at h
            refine r_lload 4 dX12_draw_71 rfl ?_
            refine r_aload_n 0 dX12_draw_73 rfl rfl ?_
            refine r_getC (k := 0) (j := 65) (r := 40) sM_0 rfl fl_X12_136 dX12_draw_74 ?_
            refine r_iload_n 1 dX12_draw_77 rfl rfl ?_
            obtain ⟨x26, hx26, h⟩ := b1_some h
            refine r_iaload sM_40 hx26 dX12_draw_78 ?_
            refine r_i2l dX12_draw_79 ?_
            refine r_lcmp dX12_draw_80 ?_
            refine r_if_lt 87 dX12_draw_81 (by decide) (fun c30 => ?_) (fun c30 => ?_)
            · rw [if_pos c30] at h
              refine r_aload_n 0 dX12_draw_87 rfl rfl ?_
              refine r_getC (k := 0) (j := 66) (r := 41) sM_0 rfl fl_X12_139 dX12_draw_88 ?_
              refine r_bipush (v := 64) dX12_draw_91 rfl ?_
              refine r_iload_n 1 dX12_draw_93 rfl rfl ?_
              refine r_imul dX12_draw_94 ?_
              refine r_lload 4 dX12_draw_95 rfl ?_
              refine r_l2i dX12_draw_97 ?_
              refine r_iadd dX12_draw_98 ?_
              obtain ⟨x27, hx27, h⟩ := b1_some h
              refine r_iaload sM_41 hx27 dX12_draw_99 ?_
              refine r_i2l dX12_draw_100 ?_
              refine r_lconst (v := 0) dX12_draw_101 rfl ?_
              refine r_ldc2 kl_X12_236 dX12_draw_102 ?_
              obtain ⟨x28, hx28, h⟩ := b1_some h
              refine r_callSi (rest := []) (by omega) (mX12_in hx28) cb_X12_in ml_X12_145 sm_X12_in rfl rfl (Nat.le_of_ble_eq_true rfl) dX12_draw_105 ?_
              refine r_if_ne 117 dX12_draw_108 (by decide) (fun c29 => ?_) (fun c29 => ?_)
              · rw [if_neg c29] at h
                refine r_iinc (v := v24 + 1) [(0, .ref (ad_ G 0)), (1, .int v1), (3, .int v3), (4, .int (v24 + 1)), (5, .long x25)] 3 [1, 2, 3, 0, 4] dX12_draw_117 rfl rfl (by decide) rfl ?_
                refine r_goto 42 dX12_draw_120 (by decide) ?_
                refine r_sub [(0, .ref (ad_ G 0)), (1, .int v1), (3, .int v3), (4, .int (v24 + 1))] [0, 1, 2, 3] rfl ?_
                obtain rfl := Option.some.inj h
                exact hB (v24 + 1) rfl
              · rw [if_pos c29] at h
                refine r_bipush (v := (-100)) dX12_draw_111 rfl ?_
                refine r_iload 3 dX12_draw_113 rfl ?_
                refine r_isub dX12_draw_115 ?_
                obtain rfl := Option.some.inj h
                exact r_ireturn rfl dX12_draw_116 (hX (.inr ((-100) - v24, S)) rfl)
            · rw [if_neg c30] at h
              refine r_bipush (v := (-12)) dX12_draw_84 rfl ?_
              obtain rfl := Option.some.inj h
              exact r_ireturn rfl dX12_draw_86 (hX (.inr ((-12), S)) rfl)
      rcases bs_some h with ⟨u33, hu33, h⟩ | ⟨rr, hu33, h⟩
      · refine key _ hu33 ?_
        show Rn G shM 2 yX12_draw cX12_draw 7 (some .int) 123 [(0, .ref (ad_ G 0)), (1, .int v1), (3, .int v3)] [] S post
        refine r_aload_n 0 dX12_draw_123 rfl rfl ?_
        obtain ⟨S34, hS34, h⟩ := b1_some h
        refine r_callVv (k := 0) (rest := []) (by omega) (mX12_keeps hS34) sM_0 rfl rfl cb_X12_keeps ml_X12_161 im_X12_keeps se_X12_keeps rfl rfl (Nat.le_of_ble_eq_true rfl) dX12_draw_124 ?_
        refine r_iconst (v := 0) dX12_draw_127 rfl ?_
        refine r_istore (i := 4) [(0, .ref (ad_ G 0)), (1, .int v1), (3, .int v3), (4, .int 0)] [1, 2, 3, 0] dX12_draw_128 (by decide) rfl ?_
        have key : ∀ ex, lp (fun w35 : Int32 × St => bX12_draw_130 v1 v3 w35.1 w35.2) 5000 (0, S34) = some ex → (fun u49 : St => Rn G shM 2 yX12_draw cX12_draw 7 (some .int) 225 [(0, .ref (ad_ G 0))] [] u49 post) ex → Rn G shM 2 yX12_draw cX12_draw 7 (some .int) 130 [(0, .ref (ad_ G 0)), (1, .int v1), (3, .int v3), (4, .int 0)] [] S34 post := by
          intro ex hl hx
          refine lp_rule (body := (fun w35 : Int32 × St => bX12_draw_130 v1 v3 w35.1 w35.2)) (R := (fun w35 : Int32 × St => Rn G shM 2 yX12_draw cX12_draw 7 (some .int) 130 [(0, .ref (ad_ G 0)), (1, .int v1), (3, .int v3), (4, .int w35.1)] [] w35.2 post)) (X := (fun u49 : St => Rn G shM 2 yX12_draw cX12_draw 7 (some .int) 225 [(0, .ref (ad_ G 0))] [] u49 post)) ?_ 5000 (0, S34) ex hl hx
          intro w35 oo h hB hX
          obtain ⟨v36, S37⟩ := w35
          replace h : bX12_draw_130 v1 v3 v36 S37 = some oo := h
          unfold bX12_draw_130 at h
          show Rn G shM 2 yX12_draw cX12_draw 7 (some .int) 130 [(0, .ref (ad_ G 0)), (1, .int v1), (3, .int v3), (4, .int v36)] [] S37 post
          refine r_iload 3 dX12_draw_130 rfl ?_
          refine r_aload_n 0 dX12_draw_132 rfl rfl ?_
          refine r_getI (k := 0) (j := 0) sM_0 rfl fl_X12_7 dX12_draw_133 ?_
          refine r_aload_n 0 dX12_draw_136 rfl rfl ?_
          refine r_getI (k := 0) (j := 1) sM_0 rfl fl_X12_13 dX12_draw_137 ?_
          refine r_imul dX12_draw_140 ?_
          refine r_icmp_ge 225 dX12_draw_141 (by decide) (fun c48 => ?_) (fun c48 => ?_)
          · rw [if_pos c48] at h
            refine r_sub [(0, .ref (ad_ G 0))] [0] rfl ?_
            obtain rfl := Option.some.inj h
            exact hX S37 rfl
          · rw [if_neg c48] at h
            refine r_aload_n 0 dX12_draw_144 rfl rfl ?_
            refine r_getC (k := 0) (j := 66) (r := 41) sM_0 rfl fl_X12_139 dX12_draw_145 ?_
            refine r_bipush (v := 64) dX12_draw_148 rfl ?_
            refine r_iload_n 1 dX12_draw_150 rfl rfl ?_
            refine r_imul dX12_draw_151 ?_
            refine r_iload_n 2 dX12_draw_152 rfl rfl ?_
            refine r_iadd dX12_draw_153 ?_
            refine r_iload 3 dX12_draw_154 rfl ?_
            refine r_iadd dX12_draw_156 ?_
            obtain ⟨x38, hx38, h⟩ := b1_some h
            refine r_iaload sM_41 hx38 dX12_draw_157 ?_
            refine r_istore (i := 5) [(0, .ref (ad_ G 0)), (1, .int v1), (3, .int v3), (4, .int v36), (5, .int x38)] [1, 2, 3, 4, 0] dX12_draw_158 (by decide) rfl ?_
            refine r_bipush (v := 8) dX12_draw_160 rfl ?_
            refine r_iload 3 dX12_draw_162 rfl ?_
            refine r_aload_n 0 dX12_draw_164 rfl rfl ?_
            refine r_getI (k := 0) (j := 0) sM_0 rfl fl_X12_7 dX12_draw_165 ?_
            obtain ⟨x39, hx39, h⟩ := b1_some h
            obtain ⟨ex39, nx39⟩ := dv_some hx39
            refine r_idiv dX12_draw_168 nx39 ?_
            refine r_imul dX12_draw_169 ?_
            refine r_iload 3 dX12_draw_170 rfl ?_
            refine r_aload_n 0 dX12_draw_172 rfl rfl ?_
            refine r_getI (k := 0) (j := 0) sM_0 rfl fl_X12_7 dX12_draw_173 ?_
            obtain ⟨x40, hx40, h⟩ := b1_some h
            obtain ⟨ex40, nx40⟩ := dv_some hx40
            refine r_irem dX12_draw_176 nx40 ?_
            refine r_iadd dX12_draw_177 ?_
            obtain ⟨x41, hx41, h⟩ := b1_some h
            rw [Option.some.inj hx41]
            refine r_istore (i := 6) [(0, .ref (ad_ G 0)), (1, .int v1), (3, .int v3), (4, .int v36), (5, .int x38), (6, .int x41)] [1, 2, 3, 4, 5, 0] dX12_draw_178 (by decide) rfl ?_
            refine r_aload_n 0 dX12_draw_180 rfl rfl ?_
            refine r_getC (k := 0) (j := 2) (r := 1) sM_0 rfl fl_X12_16 dX12_draw_181 ?_
            refine r_iload 5 dX12_draw_184 rfl ?_
            refine r_iload 4 dX12_draw_186 rfl ?_
            refine r_bipush (v := 10) dX12_draw_188 rfl ?_
            obtain ⟨w42, hw42, h⟩ := b1_some h
            have hJ : Rn G shM 2 yX12_draw cX12_draw 7 (some .int) 198 [(0, .ref (ad_ G 0)), (1, .int v1), (3, .int v3), (4, .int v36), (5, .int x38), (6, .int x41)] [.int w42, .int x41, .ref (ad_ G 1)] S37 post := by
              obtain ⟨S43, hS43, h⟩ := b1_some h
              refine r_zastore sM_1 hS43 dX12_draw_198 ?_
              refine r_aload_n 0 dX12_draw_199 rfl rfl ?_
              refine r_getC (k := 0) (j := 3) (r := 2) sM_0 rfl fl_X12_20 dX12_draw_200 ?_
              refine r_iload 5 dX12_draw_203 rfl ?_
              refine r_iload 4 dX12_draw_205 rfl ?_
              refine r_bipush (v := 10) dX12_draw_207 rfl ?_
              refine r_icmp_ne 216 dX12_draw_209 (by decide) (fun c46 => ?_) (fun c46 => ?_)
              · rw [if_neg c46] at h
                refine r_iload 4 dX12_draw_216 rfl ?_
                obtain ⟨S44, hS44, h⟩ := b1_some h
                refine r_iastore sM_2 hS44 dX12_draw_218 ?_
                refine r_iinc (v := v36 + 1) [(0, .ref (ad_ G 0)), (1, .int v1), (3, .int v3), (4, .int (v36 + 1)), (5, .int x38), (6, .int x41)] 3 [1, 2, 3, 0, 4, 5] dX12_draw_219 rfl rfl (by decide) rfl ?_
                refine r_goto 130 dX12_draw_222 (by decide) ?_
                refine r_sub [(0, .ref (ad_ G 0)), (1, .int v1), (3, .int v3), (4, .int (v36 + 1))] [0, 1, 2, 3] rfl ?_
                obtain rfl := Option.some.inj h
                exact hB (v36 + 1, S44) rfl
              · rw [if_pos c46] at h
                refine r_iconst (v := 0) dX12_draw_212 rfl ?_
                refine r_goto 218 dX12_draw_213 (by decide) ?_
                obtain ⟨S45, hS45, h⟩ := b1_some h
                refine r_iastore sM_2 hS45 dX12_draw_218 ?_
                refine r_iinc (v := v36 + 1) [(0, .ref (ad_ G 0)), (1, .int v1), (3, .int v3), (4, .int (v36 + 1)), (5, .int x38), (6, .int x41)] 3 [1, 2, 3, 0, 4, 5] dX12_draw_219 rfl rfl (by decide) rfl ?_
                refine r_goto 130 dX12_draw_222 (by decide) ?_
                refine r_sub [(0, .ref (ad_ G 0)), (1, .int v1), (3, .int v3), (4, .int (v36 + 1))] [0, 1, 2, 3] rfl ?_
                obtain rfl := Option.some.inj h
                exact hB (v36 + 1, S45) rfl
            clear h
            replace h := hw42
            refine r_icmp_ne 197 dX12_draw_190 (by decide) (fun c47 => ?_) (fun c47 => ?_)
            · rw [if_neg c47] at h
              refine r_iconst (v := 0) dX12_draw_197 rfl ?_
              obtain rfl := Option.some.inj h
              exact hJ
            · rw [if_pos c47] at h
              refine r_iconst (v := 1) dX12_draw_193 rfl ?_
              refine r_goto 198 dX12_draw_194 (by decide) ?_
              obtain rfl := Option.some.inj h
              exact hJ
        obtain ⟨u49, hu49, h⟩ := b1_some h
        refine key u49 hu49 ?_
        show Rn G shM 2 yX12_draw cX12_draw 7 (some .int) 225 [(0, .ref (ad_ G 0))] [] u49 post
        refine r_aload_n 0 dX12_draw_225 rfl rfl ?_
        obtain ⟨x50, hx50, h⟩ := b1_some h
        refine r_callVi (k := 0) (rest := []) (by omega) (mX12_crackMany hx50) sM_0 rfl rfl cb_X12_crackMany ml_X12_398 im_X12_crackMany se_X12_crackMany rfl rfl (Nat.le_of_ble_eq_true rfl) dX12_draw_226 ?_
        obtain rfl := Option.some.inj h
        exact r_ireturn rfl dX12_draw_229 (hp)
      · refine key _ hu33 ?_
        show post (some (.int rr.1)) rr.2
        obtain rfl := Option.some.inj h
        exact hp
    · rw [if_neg c53] at h
      refine r_aload_n 0 dX12_draw_20 rfl rfl ?_
      refine r_getC (k := 0) (j := 64) (r := 39) sM_0 rfl fl_X12_133 dX12_draw_21 ?_
      refine r_iload_n 1 dX12_draw_24 rfl rfl ?_
      obtain ⟨x51, hx51, h⟩ := b1_some h
      refine r_iaload sM_39 hx51 dX12_draw_25 ?_
      refine r_bipush (v := (-4)) dX12_draw_26 rfl ?_
      refine r_icmp_ne 36 dX12_draw_28 (by decide) (fun c52 => ?_) (fun c52 => ?_)
      · rw [if_neg c52] at h
        refine r_bipush (v := (-13)) dX12_draw_36 rfl ?_
        obtain rfl := Option.some.inj h
        exact r_ireturn rfl dX12_draw_38 (hp)
      · rw [if_pos c52] at h
        refine r_bipush (v := (-11)) dX12_draw_31 rfl ?_
        refine r_goto 38 dX12_draw_33 (by decide) ?_
        obtain rfl := Option.some.inj h
        exact r_ireturn rfl dX12_draw_38 (hp)
  · rw [if_pos c54] at h
    refine r_iconst (v := (-1)) dX12_draw_8 rfl ?_
    obtain rfl := Option.some.inj h
    exact r_ireturn rfl dX12_draw_9 (hp)
theorem mX12_draw {G : Gx} {S : St} {v1 : Int32} {v2 : Int32} {v3 : Int32} {o : (Int32 × St)}  (h : fX12_draw S v1 v2 v3 = some o) : MR_ G shM 2 yX12_draw cX12_draw 7 (some .int) [.ref (ad_ G 0), .int v1, .int v2, .int v3] S (PI_ o.1 o.2) := MR_of cb_X12_draw (Nat.le_of_ble_eq_true rfl) [(0, .ref (ad_ G 0)), (1, .int v1), (2, .int v2), (3, .int v3)] rfl (tX12_draw  h ⟨rfl, rfl⟩)
set_option maxRecDepth 100000 in
set_option maxHeartbeats 4000000 in
theorem tX12_count {G : Gx} {post : Option Value → St → Prop} {S : St} {v1 : Int32} {o : (Int32 × St)}  (h : fX12_count S v1 = some o) (hp : post (some (.int o.1)) o.2) : Rn G shM 2 yX12_count cX12_count 5 (some .int) 0 [(0, .ref (ad_ G 0)), (1, .int v1)] [] S post := by
  unfold fX12_count at h
  refine r_iconst (v := 0) dX12_count_0 rfl ?_
  refine r_istore_n (i := 2) [(0, .ref (ad_ G 0)), (1, .int v1), (2, .int 0)] [1, 2, 0] dX12_count_1 rfl (by decide) rfl ?_
  refine r_iconst (v := 0) dX12_count_2 rfl ?_
  refine r_istore_n (i := 3) [(0, .ref (ad_ G 0)), (1, .int v1), (2, .int 0), (3, .int 0)] [1, 2, 3, 0] dX12_count_3 rfl (by decide) rfl ?_
  have key : ∀ ex, lp (fun w21 : Int32 × Int32 × St => bX12_count_4  w21.1 w21.2.1 w21.2.2) 5000 (0, 0, S) = some ex → (fun u29 : Int32 × St => Rn G shM 2 yX12_count cX12_count 5 (some .int) 36 [(0, .ref (ad_ G 0)), (1, .int v1), (2, .int u29.1)] [] u29.2 post) ex → Rn G shM 2 yX12_count cX12_count 5 (some .int) 4 [(0, .ref (ad_ G 0)), (1, .int v1), (2, .int 0), (3, .int 0)] [] S post := by
    intro ex hl hx
    refine lp_rule (body := (fun w21 : Int32 × Int32 × St => bX12_count_4  w21.1 w21.2.1 w21.2.2)) (R := (fun w21 : Int32 × Int32 × St => Rn G shM 2 yX12_count cX12_count 5 (some .int) 4 [(0, .ref (ad_ G 0)), (1, .int v1), (2, .int w21.1), (3, .int w21.2.1)] [] w21.2.2 post)) (X := (fun u29 : Int32 × St => Rn G shM 2 yX12_count cX12_count 5 (some .int) 36 [(0, .ref (ad_ G 0)), (1, .int v1), (2, .int u29.1)] [] u29.2 post)) ?_ 5000 (0, 0, S) ex hl hx
    intro w21 oo h hB hX
    obtain ⟨v22, v23, S24⟩ := w21
    replace h : bX12_count_4  v22 v23 S24 = some oo := h
    unfold bX12_count_4 at h
    show Rn G shM 2 yX12_count cX12_count 5 (some .int) 4 [(0, .ref (ad_ G 0)), (1, .int v1), (2, .int v22), (3, .int v23)] [] S24 post
    refine r_iload_n 3 dX12_count_4 rfl rfl ?_
    refine r_bipush (v := 6) dX12_count_5 rfl ?_
    refine r_icmp_ge 36 dX12_count_7 (by decide) (fun c28 => ?_) (fun c28 => ?_)
    · rw [if_pos c28] at h
      refine r_sub [(0, .ref (ad_ G 0)), (1, .int v1), (2, .int v22)] [0, 1, 2] rfl ?_
      obtain rfl := Option.some.inj h
      exact hX (v22, S24) rfl
    · rw [if_neg c28] at h
      refine r_aload_n 0 dX12_count_10 rfl rfl ?_
      refine r_iload_n 3 dX12_count_11 rfl rfl ?_
      obtain ⟨S25, hS25, h⟩ := b1_some h
      refine r_callVv (k := 0) (rest := []) (by omega) (mX12_findLot hS25) sM_0 rfl rfl cb_X12_findLot ml_X12_388 im_X12_findLot se_X12_findLot rfl rfl (Nat.le_of_ble_eq_true rfl) dX12_count_12 ?_
      refine r_iload_n 2 dX12_count_15 rfl rfl ?_
      refine r_aload_n 0 dX12_count_16 rfl rfl ?_
      obtain ⟨x26, hx26, h⟩ := b1_some h
      refine r_callVi (k := 0) (rest := [.int v22]) (by omega) (mX12_isOff hx26) sM_0 rfl rfl cb_X12_isOff ml_X12_391 im_X12_isOff se_X12_isOff rfl rfl (Nat.le_of_ble_eq_true rfl) dX12_count_17 ?_
      refine r_if_eq 27 dX12_count_20 (by decide) (fun c27 => ?_) (fun c27 => ?_)
      · rw [if_pos c27] at h
        refine r_iconst (v := 0) dX12_count_27 rfl ?_
        refine r_iadd dX12_count_28 ?_
        refine r_istore_n (i := 2) [(0, .ref (ad_ G 0)), (1, .int v1), (2, .int (v22 + 0)), (3, .int v23)] [1, 2, 0, 3] dX12_count_29 rfl (by decide) rfl ?_
        refine r_iinc (v := v23 + 1) [(0, .ref (ad_ G 0)), (1, .int v1), (2, .int (v22 + 0)), (3, .int (v23 + 1))] 3 [1, 2, 3, 0] dX12_count_30 rfl rfl (by decide) rfl ?_
        refine r_goto 4 dX12_count_33 (by decide) ?_
        obtain rfl := Option.some.inj h
        exact hB (v22 + 0, v23 + 1, S25) rfl
      · rw [if_neg c27] at h
        refine r_iconst (v := 1) dX12_count_23 rfl ?_
        refine r_goto 28 dX12_count_24 (by decide) ?_
        refine r_iadd dX12_count_28 ?_
        refine r_istore_n (i := 2) [(0, .ref (ad_ G 0)), (1, .int v1), (2, .int (v22 + 1)), (3, .int v23)] [1, 2, 0, 3] dX12_count_29 rfl (by decide) rfl ?_
        refine r_iinc (v := v23 + 1) [(0, .ref (ad_ G 0)), (1, .int v1), (2, .int (v22 + 1)), (3, .int (v23 + 1))] 3 [1, 2, 3, 0] dX12_count_30 rfl rfl (by decide) rfl ?_
        refine r_goto 4 dX12_count_33 (by decide) ?_
        obtain rfl := Option.some.inj h
        exact hB (v22 + 1, v23 + 1, S25) rfl
  obtain ⟨u29, hu29, h⟩ := b1_some h
  refine key u29 hu29 ?_
  show Rn G shM 2 yX12_count cX12_count 5 (some .int) 36 [(0, .ref (ad_ G 0)), (1, .int v1), (2, .int u29.1)] [] u29.2 post
  refine r_iconst (v := 0) dX12_count_36 rfl ?_
  refine r_istore_n (i := 3) [(0, .ref (ad_ G 0)), (1, .int v1), (2, .int u29.1), (3, .int 0)] [1, 2, 3, 0] dX12_count_37 rfl (by decide) rfl ?_
  refine r_iconst (v := 0) dX12_count_38 rfl ?_
  refine r_istore (i := 4) [(0, .ref (ad_ G 0)), (1, .int v1), (2, .int u29.1), (3, .int 0), (4, .int 0)] [1, 2, 3, 4, 0] dX12_count_39 (by decide) rfl ?_
  have key : ∀ ex, lp (fun w30 : Int32 × Int32 => bX12_count_41 u29 w30.1 w30.2) 5000 (0, 0) = some ex → (fun u39 : Int32 => Rn G shM 2 yX12_count cX12_count 5 (some .int) 91 [(0, .ref (ad_ G 0)), (1, .int v1), (2, .int u29.1), (3, .int u39)] [] u29.2 post) ex → Rn G shM 2 yX12_count cX12_count 5 (some .int) 41 [(0, .ref (ad_ G 0)), (1, .int v1), (2, .int u29.1), (3, .int 0), (4, .int 0)] [] u29.2 post := by
    intro ex hl hx
    refine lp_rule (body := (fun w30 : Int32 × Int32 => bX12_count_41 u29 w30.1 w30.2)) (R := (fun w30 : Int32 × Int32 => Rn G shM 2 yX12_count cX12_count 5 (some .int) 41 [(0, .ref (ad_ G 0)), (1, .int v1), (2, .int u29.1), (3, .int w30.1), (4, .int w30.2)] [] u29.2 post)) (X := (fun u39 : Int32 => Rn G shM 2 yX12_count cX12_count 5 (some .int) 91 [(0, .ref (ad_ G 0)), (1, .int v1), (2, .int u29.1), (3, .int u39)] [] u29.2 post)) ?_ 5000 (0, 0) ex hl hx
    intro w30 oo h hB hX
    obtain ⟨v31, v32⟩ := w30
    replace h : bX12_count_41 u29 v31 v32 = some oo := h
    unfold bX12_count_41 at h
    show Rn G shM 2 yX12_count cX12_count 5 (some .int) 41 [(0, .ref (ad_ G 0)), (1, .int v1), (2, .int u29.1), (3, .int v31), (4, .int v32)] [] u29.2 post
    refine r_iload 4 dX12_count_41 rfl ?_
    refine r_aload_n 0 dX12_count_43 rfl rfl ?_
    refine r_getI (k := 0) (j := 28) sM_0 rfl fl_X12_251 dX12_count_44 ?_
    refine r_icmp_ge 91 dX12_count_47 (by decide) (fun c38 => ?_) (fun c38 => ?_)
    · rw [if_pos c38] at h
      refine r_sub [(0, .ref (ad_ G 0)), (1, .int v1), (2, .int u29.1), (3, .int v31)] [0, 1, 2, 3] rfl ?_
      obtain rfl := Option.some.inj h
      exact hX v31 rfl
    · rw [if_neg c38] at h
      refine r_iload_n 3 dX12_count_50 rfl rfl ?_
      refine r_aload_n 0 dX12_count_51 rfl rfl ?_
      refine r_iload 4 dX12_count_52 rfl ?_
      obtain ⟨x33, hx33, h⟩ := b1_some h
      refine r_callVi (k := 0) (rest := [.int v31]) (by omega) (mX12_soldAs hx33) sM_0 rfl rfl cb_X12_soldAs ml_X12_261 im_X12_soldAs se_X12_soldAs rfl rfl (Nat.le_of_ble_eq_true rfl) dX12_count_54 ?_
      refine r_bipush (v := (-4)) dX12_count_57 rfl ?_
      refine r_icmp_eq 82 dX12_count_59 (by decide) (fun c37 => ?_) (fun c37 => ?_)
      · rw [if_pos c37] at h
        refine r_iconst (v := 0) dX12_count_82 rfl ?_
        refine r_iadd dX12_count_83 ?_
        refine r_istore_n (i := 3) [(0, .ref (ad_ G 0)), (1, .int v1), (2, .int u29.1), (3, .int (v31 + 0)), (4, .int v32)] [1, 2, 3, 0, 4] dX12_count_84 rfl (by decide) rfl ?_
        refine r_iinc (v := v32 + 1) [(0, .ref (ad_ G 0)), (1, .int v1), (2, .int u29.1), (3, .int (v31 + 0)), (4, .int (v32 + 1))] 4 [1, 2, 3, 4, 0] dX12_count_85 rfl rfl (by decide) rfl ?_
        refine r_goto 41 dX12_count_88 (by decide) ?_
        obtain rfl := Option.some.inj h
        exact hB (v31 + 0, v32 + 1) rfl
      · rw [if_neg c37] at h
        refine r_aload_n 0 dX12_count_62 rfl rfl ?_
        refine r_iload 4 dX12_count_63 rfl ?_
        obtain ⟨x34, hx34, h⟩ := b1_some h
        refine r_callVi (k := 0) (rest := [.int v31]) (by omega) (mX12_soldAs hx34) sM_0 rfl rfl cb_X12_soldAs ml_X12_261 im_X12_soldAs se_X12_soldAs rfl rfl (Nat.le_of_ble_eq_true rfl) dX12_count_65 ?_
        refine r_aload_n 0 dX12_count_68 rfl rfl ?_
        refine r_getC (k := 0) (j := 34) (r := 27) sM_0 rfl fl_X12_97 dX12_count_69 ?_
        refine r_iload 4 dX12_count_72 rfl ?_
        obtain ⟨x35, hx35, h⟩ := b1_some h
        refine r_iaload sM_27 hx35 dX12_count_74 ?_
        refine r_icmp_eq 82 dX12_count_75 (by decide) (fun c36 => ?_) (fun c36 => ?_)
        · rw [if_pos c36] at h
          refine r_iconst (v := 0) dX12_count_82 rfl ?_
          refine r_iadd dX12_count_83 ?_
          refine r_istore_n (i := 3) [(0, .ref (ad_ G 0)), (1, .int v1), (2, .int u29.1), (3, .int (v31 + 0)), (4, .int v32)] [1, 2, 3, 0, 4] dX12_count_84 rfl (by decide) rfl ?_
          refine r_iinc (v := v32 + 1) [(0, .ref (ad_ G 0)), (1, .int v1), (2, .int u29.1), (3, .int (v31 + 0)), (4, .int (v32 + 1))] 4 [1, 2, 3, 4, 0] dX12_count_85 rfl rfl (by decide) rfl ?_
          refine r_goto 41 dX12_count_88 (by decide) ?_
          obtain rfl := Option.some.inj h
          exact hB (v31 + 0, v32 + 1) rfl
        · rw [if_neg c36] at h
          refine r_iconst (v := 1) dX12_count_78 rfl ?_
          refine r_goto 83 dX12_count_79 (by decide) ?_
          refine r_iadd dX12_count_83 ?_
          refine r_istore_n (i := 3) [(0, .ref (ad_ G 0)), (1, .int v1), (2, .int u29.1), (3, .int (v31 + 1)), (4, .int v32)] [1, 2, 3, 0, 4] dX12_count_84 rfl (by decide) rfl ?_
          refine r_iinc (v := v32 + 1) [(0, .ref (ad_ G 0)), (1, .int v1), (2, .int u29.1), (3, .int (v31 + 1)), (4, .int (v32 + 1))] 4 [1, 2, 3, 4, 0] dX12_count_85 rfl rfl (by decide) rfl ?_
          refine r_goto 41 dX12_count_88 (by decide) ?_
          obtain rfl := Option.some.inj h
          exact hB (v31 + 1, v32 + 1) rfl
  obtain ⟨u39, hu39, h⟩ := b1_some h
  refine key u39 hu39 ?_
  show Rn G shM 2 yX12_count cX12_count 5 (some .int) 91 [(0, .ref (ad_ G 0)), (1, .int v1), (2, .int u29.1), (3, .int u39)] [] u29.2 post
  refine r_iload_n 1 dX12_count_91 rfl rfl ?_
  by_cases c40 : v1 = 0
  · rw [if_pos c40] at h
    refine r_tableIn 160 dX12_count_92 c40 (by decide) (by decide) rfl (by decide) ?_
    refine r_aload_n 0 dX12_count_160 rfl rfl ?_
    refine r_getI (k := 0) (j := 9) sM_0 rfl fl_X12_166 dX12_count_161 ?_
    obtain rfl := Option.some.inj h
    exact r_ireturn rfl dX12_count_164 (hp)
  · rw [if_neg c40] at h
    by_cases c41 : v1 = 1
    · rw [if_pos c41] at h
      refine r_tableIn 165 dX12_count_92 c41 (by decide) (by decide) rfl (by decide) ?_
      refine r_aload_n 0 dX12_count_165 rfl rfl ?_
      refine r_getI (k := 0) (j := 28) sM_0 rfl fl_X12_251 dX12_count_166 ?_
      obtain rfl := Option.some.inj h
      exact r_ireturn rfl dX12_count_169 (hp)
    · rw [if_neg c41] at h
      by_cases c43 : v1 = 2
      · rw [if_pos c43] at h
        refine r_tableIn 170 dX12_count_92 c43 (by decide) (by decide) rfl (by decide) ?_
        refine r_aload_n 0 dX12_count_170 rfl rfl ?_
        obtain ⟨x42, hx42, h⟩ := b1_some h
        refine r_callVi (k := 0) (rest := []) (by omega) (mX12_crackMany hx42) sM_0 rfl rfl cb_X12_crackMany ml_X12_398 im_X12_crackMany se_X12_crackMany rfl rfl (Nat.le_of_ble_eq_true rfl) dX12_count_171 ?_
        obtain rfl := Option.some.inj h
        exact r_ireturn rfl dX12_count_174 (hp)
      · rw [if_neg c43] at h
        by_cases c44 : v1 = 3
        · rw [if_pos c44] at h
          refine r_tableIn 175 dX12_count_92 c44 (by decide) (by decide) rfl (by decide) ?_
          refine r_aload_n 0 dX12_count_175 rfl rfl ?_
          refine r_getI (k := 0) (j := 0) sM_0 rfl fl_X12_7 dX12_count_176 ?_
          refine r_aload_n 0 dX12_count_179 rfl rfl ?_
          refine r_getI (k := 0) (j := 1) sM_0 rfl fl_X12_13 dX12_count_180 ?_
          refine r_imul dX12_count_183 ?_
          obtain rfl := Option.some.inj h
          exact r_ireturn rfl dX12_count_184 (hp)
        · rw [if_neg c44] at h
          by_cases c45 : v1 = 4
          · rw [if_pos c45] at h
            refine r_tableIn 185 dX12_count_92 c45 (by decide) (by decide) rfl (by decide) ?_
            refine r_iload_n 2 dX12_count_185 rfl rfl ?_
            obtain rfl := Option.some.inj h
            exact r_ireturn rfl dX12_count_186 (hp)
          · rw [if_neg c45] at h
            by_cases c49 : v1 = 5
            · rw [if_pos c49] at h
              refine r_tableIn 187 dX12_count_92 c49 (by decide) (by decide) rfl (by decide) ?_
              refine r_aload_n 0 dX12_count_187 rfl rfl ?_
              refine r_getC (k := 0) (j := 64) (r := 39) sM_0 rfl fl_X12_133 dX12_count_188 ?_
              refine r_iconst (v := 0) dX12_count_191 rfl ?_
              obtain ⟨x46, hx46, h⟩ := b1_some h
              refine r_iaload sM_39 hx46 dX12_count_192 ?_
              refine r_bipush (v := (-4)) dX12_count_193 rfl ?_
              refine r_icmp_ne 203 dX12_count_195 (by decide) (fun c48 => ?_) (fun c48 => ?_)
              · rw [if_neg c48] at h
                refine r_aload_n 0 dX12_count_203 rfl rfl ?_
                refine r_getC (k := 0) (j := 65) (r := 40) sM_0 rfl fl_X12_136 dX12_count_204 ?_
                refine r_iconst (v := 0) dX12_count_207 rfl ?_
                obtain ⟨x47, hx47, h⟩ := b1_some h
                refine r_iaload sM_40 hx47 dX12_count_208 ?_
                obtain rfl := Option.some.inj h
                exact r_ireturn rfl dX12_count_209 (hp)
              · rw [if_pos c48] at h
                refine r_bipush (v := (-4)) dX12_count_198 rfl ?_
                refine r_goto 209 dX12_count_200 (by decide) ?_
                obtain rfl := Option.some.inj h
                exact r_ireturn rfl dX12_count_209 (hp)
            · rw [if_neg c49] at h
              by_cases c50 : v1 = 6
              · rw [if_pos c50] at h
                refine r_tableIn 210 dX12_count_92 c50 (by decide) (by decide) rfl (by decide) ?_
                refine r_aload_n 0 dX12_count_210 rfl rfl ?_
                refine r_getI (k := 0) (j := 4) sM_0 rfl fl_X12_158 dX12_count_211 ?_
                obtain rfl := Option.some.inj h
                exact r_ireturn rfl dX12_count_214 (hp)
              · rw [if_neg c50] at h
                by_cases c51 : v1 = 7
                · rw [if_pos c51] at h
                  refine r_tableIn 215 dX12_count_92 c51 (by decide) (by decide) rfl (by decide) ?_
                  refine r_aload_n 0 dX12_count_215 rfl rfl ?_
                  refine r_getI (k := 0) (j := 17) sM_0 rfl fl_X12_226 dX12_count_216 ?_
                  obtain rfl := Option.some.inj h
                  exact r_ireturn rfl dX12_count_219 (hp)
                · rw [if_neg c51] at h
                  by_cases c52 : v1 = 8
                  · rw [if_pos c52] at h
                    refine r_tableIn 220 dX12_count_92 c52 (by decide) (by decide) rfl (by decide) ?_
                    refine r_aload_n 0 dX12_count_220 rfl rfl ?_
                    refine r_getI (k := 0) (j := 22) sM_0 rfl fl_X12_171 dX12_count_221 ?_
                    obtain rfl := Option.some.inj h
                    exact r_ireturn rfl dX12_count_224 (hp)
                  · rw [if_neg c52] at h
                    by_cases c53 : v1 = 9
                    · rw [if_pos c53] at h
                      refine r_tableIn 225 dX12_count_92 c53 (by decide) (by decide) rfl (by decide) ?_
                      refine r_aload_n 0 dX12_count_225 rfl rfl ?_
                      refine r_getI (k := 0) (j := 6) sM_0 rfl fl_X12_153 dX12_count_226 ?_
                      obtain rfl := Option.some.inj h
                      exact r_ireturn rfl dX12_count_229 (hp)
                    · rw [if_neg c53] at h
                      by_cases c54 : v1 = 10
                      · rw [if_pos c54] at h
                        refine r_tableIn 230 dX12_count_92 c54 (by decide) (by decide) rfl (by decide) ?_
                        refine r_aload_n 0 dX12_count_230 rfl rfl ?_
                        refine r_getI (k := 0) (j := 49) sM_0 rfl fl_X12_328 dX12_count_231 ?_
                        obtain rfl := Option.some.inj h
                        exact r_ireturn rfl dX12_count_234 (hp)
                      · rw [if_neg c54] at h
                        by_cases c55 : v1 = 11
                        · rw [if_pos c55] at h
                          refine r_tableIn 235 dX12_count_92 c55 (by decide) (by decide) rfl (by decide) ?_
                          refine r_aload_n 0 dX12_count_235 rfl rfl ?_
                          refine r_getI (k := 0) (j := 46) sM_0 rfl fl_X12_325 dX12_count_236 ?_
                          obtain rfl := Option.some.inj h
                          exact r_ireturn rfl dX12_count_239 (hp)
                        · rw [if_neg c55] at h
                          by_cases c56 : v1 = 12
                          · rw [if_pos c56] at h
                            refine r_tableIn 240 dX12_count_92 c56 (by decide) (by decide) rfl (by decide) ?_
                            refine r_iload_n 3 dX12_count_240 rfl rfl ?_
                            obtain rfl := Option.some.inj h
                            exact r_ireturn rfl dX12_count_241 (hp)
                          · rw [if_neg c56] at h
                            have nc40 : (v1 : Int32).toInt ≠ 0 := ne_toInt c40
                            have nc41 : (v1 : Int32).toInt ≠ 1 := ne_toInt c41
                            have nc43 : (v1 : Int32).toInt ≠ 2 := ne_toInt c43
                            have nc44 : (v1 : Int32).toInt ≠ 3 := ne_toInt c44
                            have nc45 : (v1 : Int32).toInt ≠ 4 := ne_toInt c45
                            have nc49 : (v1 : Int32).toInt ≠ 5 := ne_toInt c49
                            have nc50 : (v1 : Int32).toInt ≠ 6 := ne_toInt c50
                            have nc51 : (v1 : Int32).toInt ≠ 7 := ne_toInt c51
                            have nc52 : (v1 : Int32).toInt ≠ 8 := ne_toInt c52
                            have nc53 : (v1 : Int32).toInt ≠ 9 := ne_toInt c53
                            have nc54 : (v1 : Int32).toInt ≠ 10 := ne_toInt c54
                            have nc55 : (v1 : Int32).toInt ≠ 11 := ne_toInt c55
                            have nc56 : (v1 : Int32).toInt ≠ 12 := ne_toInt c56
                            refine r_tableOut 242 dX12_count_92 (by omega) (by decide) ?_
                            refine r_iconst (v := (-1)) dX12_count_242 rfl ?_
                            obtain rfl := Option.some.inj h
                            exact r_ireturn rfl dX12_count_243 (hp)
theorem mX12_count {G : Gx} {S : St} {v1 : Int32} {o : (Int32 × St)}  (h : fX12_count S v1 = some o) : MR_ G shM 2 yX12_count cX12_count 5 (some .int) [.ref (ad_ G 0), .int v1] S (PI_ o.1 o.2) := MR_of cb_X12_count (Nat.le_of_ble_eq_true rfl) [(0, .ref (ad_ G 0)), (1, .int v1)] rfl (tX12_count  h ⟨rfl, rfl⟩)
