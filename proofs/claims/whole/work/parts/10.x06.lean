set_option maxRecDepth 100000 in
set_option maxHeartbeats 4000000 in
theorem tX11_lot {G : Gx} {post : Option Value → St → Prop} {S : St} {v1 : Int32} {v2 : Int32} {o : Int32}  (h : fX11_lot S v1 v2 = some o) (hp : post (some (.int o)) S) : Rn G shX 3 yX11_lot cX11_lot 3 (some .int) 0 [(0, .ref (ad_ G 0)), (1, .int v1), (2, .int v2)] [] S post := by
  unfold fX11_lot at h
  refine r_iload_n 1 dX11_lot_0 rfl rfl ?_
  refine r_iconst (v := 0) dX11_lot_1 rfl ?_
  refine r_iconst (v := 5) dX11_lot_2 rfl ?_
  obtain ⟨x21, hx21, h⟩ := b1_some h
  refine r_callSi (rest := []) (by omega) (mX11_within hx21) cb_X11_within ml_X11_103 sm_X11_within rfl rfl (Nat.le_of_ble_eq_true rfl) dX11_lot_3 ?_
  refine r_if_ne 13 dX11_lot_6 (by decide) (fun c36 => ?_) (fun c36 => ?_)
  · rw [if_neg c36] at h
    refine r_iload_n 2 dX11_lot_13 rfl rfl ?_
    by_cases c23 : v2 = 0
    · rw [if_pos c23] at h
      refine r_tableIn 52 dX11_lot_14 c23 (by decide) (by decide) rfl (by decide) ?_
      refine r_aload_n 0 dX11_lot_52 rfl rfl ?_
      refine r_getC (k := 0) (j := 8) (r := 49) sX_0 rfl fl_X11_66 dX11_lot_53 ?_
      refine r_iload_n 1 dX11_lot_56 rfl rfl ?_
      obtain ⟨x22, hx22, h⟩ := b1_some h
      refine r_callVi (k := 49) (rest := []) (by omega) (mX5_howMany hx22) sX_49 rfl rfl cb_X5_howMany ml_X11_365 im_X5_howMany se_X5_howMany rfl rfl (Nat.le_of_ble_eq_true rfl) dX11_lot_57 ?_
      obtain rfl := Option.some.inj h
      exact r_ireturn rfl dX11_lot_60 (hp)
    · rw [if_neg c23] at h
      by_cases c25 : v2 = 1
      · rw [if_pos c25] at h
        refine r_tableIn 61 dX11_lot_14 c25 (by decide) (by decide) rfl (by decide) ?_
        refine r_aload_n 0 dX11_lot_61 rfl rfl ?_
        refine r_getC (k := 0) (j := 8) (r := 49) sX_0 rfl fl_X11_66 dX11_lot_62 ?_
        refine r_aload_n 0 dX11_lot_65 rfl rfl ?_
        refine r_getC (k := 0) (j := 8) (r := 49) sX_0 rfl fl_X11_66 dX11_lot_66 ?_
        refine r_getC (k := 49) (j := 4) (r := 54) sX_49 rfl fl_X11_311 dX11_lot_69 ?_
        refine r_iload_n 1 dX11_lot_72 rfl rfl ?_
        obtain ⟨x24, hx24, h⟩ := b1_some h
        refine r_callVi (k := 49) (rest := []) (by omega) (mX5_sumIn sX_54 hx24) sX_49 rfl rfl cb_X5_sumIn ml_X11_368 im_X5_sumIn se_X5_sumIn rfl rfl (Nat.le_of_ble_eq_true rfl) dX11_lot_73 ?_
        obtain rfl := Option.some.inj h
        exact r_ireturn rfl dX11_lot_76 (hp)
      · rw [if_neg c25] at h
        by_cases c27 : v2 = 2
        · rw [if_pos c27] at h
          refine r_tableIn 77 dX11_lot_14 c27 (by decide) (by decide) rfl (by decide) ?_
          refine r_aload_n 0 dX11_lot_77 rfl rfl ?_
          refine r_getC (k := 0) (j := 8) (r := 49) sX_0 rfl fl_X11_66 dX11_lot_78 ?_
          refine r_aload_n 0 dX11_lot_81 rfl rfl ?_
          refine r_getC (k := 0) (j := 8) (r := 49) sX_0 rfl fl_X11_66 dX11_lot_82 ?_
          refine r_getC (k := 49) (j := 1) (r := 51) sX_49 rfl fl_X11_302 dX11_lot_85 ?_
          refine r_iload_n 1 dX11_lot_88 rfl rfl ?_
          obtain ⟨x26, hx26, h⟩ := b1_some h
          refine r_callVi (k := 49) (rest := []) (by omega) (mX5_sumIn sX_51 hx26) sX_49 rfl rfl cb_X5_sumIn ml_X11_368 im_X5_sumIn se_X5_sumIn rfl rfl (Nat.le_of_ble_eq_true rfl) dX11_lot_89 ?_
          obtain rfl := Option.some.inj h
          exact r_ireturn rfl dX11_lot_92 (hp)
        · rw [if_neg c27] at h
          by_cases c29 : v2 = 3
          · rw [if_pos c29] at h
            refine r_tableIn 93 dX11_lot_14 c29 (by decide) (by decide) rfl (by decide) ?_
            refine r_aload_n 0 dX11_lot_93 rfl rfl ?_
            refine r_getC (k := 0) (j := 8) (r := 49) sX_0 rfl fl_X11_66 dX11_lot_94 ?_
            refine r_aload_n 0 dX11_lot_97 rfl rfl ?_
            refine r_getC (k := 0) (j := 8) (r := 49) sX_0 rfl fl_X11_66 dX11_lot_98 ?_
            refine r_getC (k := 49) (j := 2) (r := 52) sX_49 rfl fl_X11_305 dX11_lot_101 ?_
            refine r_iload_n 1 dX11_lot_104 rfl rfl ?_
            obtain ⟨x28, hx28, h⟩ := b1_some h
            refine r_callVi (k := 49) (rest := []) (by omega) (mX5_sumIn sX_52 hx28) sX_49 rfl rfl cb_X5_sumIn ml_X11_368 im_X5_sumIn se_X5_sumIn rfl rfl (Nat.le_of_ble_eq_true rfl) dX11_lot_105 ?_
            obtain rfl := Option.some.inj h
            exact r_ireturn rfl dX11_lot_108 (hp)
          · rw [if_neg c29] at h
            by_cases c33 : v2 = 4
            · rw [if_pos c33] at h
              refine r_tableIn 109 dX11_lot_14 c33 (by decide) (by decide) rfl (by decide) ?_
              refine r_aload_n 0 dX11_lot_109 rfl rfl ?_
              refine r_getC (k := 0) (j := 8) (r := 49) sX_0 rfl fl_X11_66 dX11_lot_110 ?_
              refine r_iload_n 1 dX11_lot_113 rfl rfl ?_
              refine r_aload_n 0 dX11_lot_114 rfl rfl ?_
              obtain ⟨k30, hk30, h⟩ := b1_some h
              have ik30 := okL_is hk30
              refine r_getP (k := 0) (j := 11) sX_0 rfl fl_X11_89 hk30 dX11_lot_115 ?_
              refine r_getI (k := k30) (j := 5) ik30.1 rfl fl_X11_372 dX11_lot_118 ?_
              obtain ⟨x31, hx31, h⟩ := b1_some h
              refine r_callVi (k := 49) (rest := []) (by omega) (mX5_isOff hx31) sX_49 rfl rfl cb_X5_isOff ml_X11_375 im_X5_isOff se_X5_isOff rfl rfl (Nat.le_of_ble_eq_true rfl) dX11_lot_121 ?_
              refine r_if_eq 131 dX11_lot_124 (by decide) (fun c32 => ?_) (fun c32 => ?_)
              · rw [if_pos c32] at h
                refine r_iconst (v := 0) dX11_lot_131 rfl ?_
                obtain rfl := Option.some.inj h
                exact r_ireturn rfl dX11_lot_132 (hp)
              · rw [if_neg c32] at h
                refine r_iconst (v := 1) dX11_lot_127 rfl ?_
                refine r_goto 132 dX11_lot_128 (by decide) ?_
                obtain rfl := Option.some.inj h
                exact r_ireturn rfl dX11_lot_132 (hp)
            · rw [if_neg c33] at h
              by_cases c35 : v2 = 5
              · rw [if_pos c35] at h
                refine r_tableIn 133 dX11_lot_14 c35 (by decide) (by decide) rfl (by decide) ?_
                refine r_aload_n 0 dX11_lot_133 rfl rfl ?_
                refine r_getC (k := 0) (j := 8) (r := 49) sX_0 rfl fl_X11_66 dX11_lot_134 ?_
                refine r_iload_n 1 dX11_lot_137 rfl rfl ?_
                obtain ⟨x34, hx34, h⟩ := b1_some h
                refine r_callVi (k := 49) (rest := []) (by omega) (mX5_longestRun hx34) sX_49 rfl rfl cb_X5_longestRun ml_X11_378 im_X5_longestRun se_X5_longestRun rfl rfl (Nat.le_of_ble_eq_true rfl) dX11_lot_138 ?_
                obtain rfl := Option.some.inj h
                exact r_ireturn rfl dX11_lot_141 (hp)
              · rw [if_neg c35] at h
                have nc23 : (v2 : Int32).toInt ≠ 0 := ne_toInt c23
                have nc25 : (v2 : Int32).toInt ≠ 1 := ne_toInt c25
                have nc27 : (v2 : Int32).toInt ≠ 2 := ne_toInt c27
                have nc29 : (v2 : Int32).toInt ≠ 3 := ne_toInt c29
                have nc33 : (v2 : Int32).toInt ≠ 4 := ne_toInt c33
                have nc35 : (v2 : Int32).toInt ≠ 5 := ne_toInt c35
                refine r_tableOut 142 dX11_lot_14 (by omega) (by decide) ?_
                refine r_sipush (v := (-10000)) dX11_lot_142 rfl ?_
                obtain rfl := Option.some.inj h
                exact r_ireturn rfl dX11_lot_145 (hp)
  · rw [if_pos c36] at h
    refine r_sipush (v := (-10000)) dX11_lot_9 rfl ?_
    obtain rfl := Option.some.inj h
    exact r_ireturn rfl dX11_lot_12 (hp)
theorem mX11_lot {G : Gx} {S : St} {v1 : Int32} {v2 : Int32} {o : Int32}  (h : fX11_lot S v1 v2 = some o) : MR_ G shX 3 yX11_lot cX11_lot 3 (some .int) [.ref (ad_ G 0), .int v1, .int v2] S (PI_ o S) := MR_of cb_X11_lot (Nat.le_of_ble_eq_true rfl) [(0, .ref (ad_ G 0)), (1, .int v1), (2, .int v2)] rfl (tX11_lot  h ⟨rfl, rfl⟩)
set_option maxRecDepth 100000 in
set_option maxHeartbeats 4000000 in
theorem tX5_isWorse {G : Gx} {post : Option Value → St → Prop} {S : St} {v1 : Int32} {v2 : Int32} {o : Int32}  (h : fX5_isWorse S v1 v2 = some o) (hp : post (some (.int o)) S) : Rn G shX 2 yX5_isWorse cX5_isWorse 3 (some .boolean) 0 [(0, .ref (ad_ G 49)), (1, .int v1), (2, .int v2)] [] S post := by
  unfold fX5_isWorse at h
  refine r_aload_n 0 dX5_isWorse_0 rfl rfl ?_
  refine r_iload_n 1 dX5_isWorse_1 rfl rfl ?_
  obtain ⟨x21, hx21, h⟩ := b1_some h
  refine r_callVi (k := 49) (rest := []) (by omega) (mX5_distanceOff hx21) sX_49 rfl rfl cb_X5_distanceOff ml_X5_58 im_X5_distanceOff se_X5_distanceOff rfl rfl (Nat.le_of_ble_eq_true rfl) dX5_isWorse_2 ?_
  refine r_aload_n 0 dX5_isWorse_5 rfl rfl ?_
  refine r_iload_n 2 dX5_isWorse_6 rfl rfl ?_
  obtain ⟨x22, hx22, h⟩ := b1_some h
  refine r_callVi (k := 49) (rest := [.int x21]) (by omega) (mX5_howMany hx22) sX_49 rfl rfl cb_X5_howMany ml_X5_55 im_X5_howMany se_X5_howMany rfl rfl (Nat.le_of_ble_eq_true rfl) dX5_isWorse_7 ?_
  refine r_imul dX5_isWorse_10 ?_
  refine r_aload_n 0 dX5_isWorse_11 rfl rfl ?_
  refine r_iload_n 2 dX5_isWorse_12 rfl rfl ?_
  obtain ⟨x23, hx23, h⟩ := b1_some h
  refine r_callVi (k := 49) (rest := [.int (x21 * x22)]) (by omega) (mX5_distanceOff hx23) sX_49 rfl rfl cb_X5_distanceOff ml_X5_58 im_X5_distanceOff se_X5_distanceOff rfl rfl (Nat.le_of_ble_eq_true rfl) dX5_isWorse_13 ?_
  refine r_aload_n 0 dX5_isWorse_16 rfl rfl ?_
  refine r_iload_n 1 dX5_isWorse_17 rfl rfl ?_
  obtain ⟨x24, hx24, h⟩ := b1_some h
  refine r_callVi (k := 49) (rest := [.int x23, .int (x21 * x22)]) (by omega) (mX5_howMany hx24) sX_49 rfl rfl cb_X5_howMany ml_X5_55 im_X5_howMany se_X5_howMany rfl rfl (Nat.le_of_ble_eq_true rfl) dX5_isWorse_18 ?_
  refine r_imul dX5_isWorse_21 ?_
  refine r_icmp_le 29 dX5_isWorse_22 (by decide) (fun c25 => ?_) (fun c25 => ?_)
  · rw [if_pos c25] at h
    refine r_iconst (v := 0) dX5_isWorse_29 rfl ?_
    obtain rfl := Option.some.inj h
    exact r_zreturn rfl (by decide) dX5_isWorse_30 (hp)
  · rw [if_neg c25] at h
    refine r_iconst (v := 1) dX5_isWorse_25 rfl ?_
    refine r_goto 30 dX5_isWorse_26 (by decide) ?_
    obtain rfl := Option.some.inj h
    exact r_zreturn rfl (by decide) dX5_isWorse_30 (hp)
theorem mX5_isWorse {G : Gx} {S : St} {v1 : Int32} {v2 : Int32} {o : Int32}  (h : fX5_isWorse S v1 v2 = some o) : MR_ G shX 2 yX5_isWorse cX5_isWorse 3 (some .boolean) [.ref (ad_ G 49), .int v1, .int v2] S (PI_ o S) := MR_of cb_X5_isWorse (Nat.le_of_ble_eq_true rfl) [(0, .ref (ad_ G 49)), (1, .int v1), (2, .int v2)] rfl (tX5_isWorse  h ⟨rfl, rfl⟩)
set_option maxRecDepth 100000 in
set_option maxHeartbeats 4000000 in
theorem tX11_worst {G : Gx} {post : Option Value → St → Prop} {S : St} {o : Int32}  (h : fX11_worst S = some o) (hp : post (some (.int o)) S) : Rn G shX 3 yX11_worst cX11_worst 3 (some .int) 0 [(0, .ref (ad_ G 0))] [] S post := by
  unfold fX11_worst at h
  refine r_bipush (v := (-4)) dX11_worst_0 rfl ?_
  refine r_istore_n (i := 1) [(0, .ref (ad_ G 0)), (1, .int (-4))] [1, 0] dX11_worst_2 rfl (by decide) rfl ?_
  refine r_iconst (v := 0) dX11_worst_3 rfl ?_
  refine r_istore_n (i := 2) [(0, .ref (ad_ G 0)), (1, .int (-4)), (2, .int 0)] [1, 2, 0] dX11_worst_4 rfl (by decide) rfl ?_
  have key : ∀ ex, lp (fun w21 : Int32 × Int32 => bX11_worst_5 S w21.1 w21.2) 5000 ((-4), 0) = some ex → (fun u31 : Int32 => Rn G shX 3 yX11_worst cX11_worst 3 (some .int) 55 [(1, .int u31)] [] S post) ex → Rn G shX 3 yX11_worst cX11_worst 3 (some .int) 5 [(0, .ref (ad_ G 0)), (1, .int (-4)), (2, .int 0)] [] S post := by
    intro ex hl hx
    refine lp_rule (body := (fun w21 : Int32 × Int32 => bX11_worst_5 S w21.1 w21.2)) (R := (fun w21 : Int32 × Int32 => Rn G shX 3 yX11_worst cX11_worst 3 (some .int) 5 [(0, .ref (ad_ G 0)), (1, .int w21.1), (2, .int w21.2)] [] S post)) (X := (fun u31 : Int32 => Rn G shX 3 yX11_worst cX11_worst 3 (some .int) 55 [(1, .int u31)] [] S post)) ?_ 5000 ((-4), 0) ex hl hx
    intro w21 oo h hB hX
    obtain ⟨v22, v23⟩ := w21
    replace h : bX11_worst_5 S v22 v23 = some oo := h
    unfold bX11_worst_5 at h
    show Rn G shX 3 yX11_worst cX11_worst 3 (some .int) 5 [(0, .ref (ad_ G 0)), (1, .int v22), (2, .int v23)] [] S post
    refine r_iload_n 2 dX11_worst_5 rfl rfl ?_
    refine r_bipush (v := 6) dX11_worst_6 rfl ?_
    refine r_icmp_ge 55 dX11_worst_8 (by decide) (fun c30 => ?_) (fun c30 => ?_)
    · rw [if_pos c30] at h
      refine r_sub [(1, .int v22)] [1] rfl ?_
      obtain rfl := Option.some.inj h
      exact hX v22 rfl
    · rw [if_neg c30] at h
      refine r_aload_n 0 dX11_worst_11 rfl rfl ?_
      refine r_getC (k := 0) (j := 8) (r := 49) sX_0 rfl fl_X11_66 dX11_worst_12 ?_
      refine r_iload_n 2 dX11_worst_15 rfl rfl ?_
      refine r_aload_n 0 dX11_worst_16 rfl rfl ?_
      obtain ⟨k24, hk24, h⟩ := b1_some h
      have ik24 := okL_is hk24
      refine r_getP (k := 0) (j := 11) sX_0 rfl fl_X11_89 hk24 dX11_worst_17 ?_
      refine r_getI (k := k24) (j := 5) ik24.1 rfl fl_X11_372 dX11_worst_20 ?_
      obtain ⟨x25, hx25, h⟩ := b1_some h
      refine r_callVi (k := 49) (rest := []) (by omega) (mX5_isOff hx25) sX_49 rfl rfl cb_X5_isOff ml_X11_375 im_X5_isOff se_X5_isOff rfl rfl (Nat.le_of_ble_eq_true rfl) dX11_worst_23 ?_
      refine r_if_eq 49 dX11_worst_26 (by decide) (fun c29 => ?_) (fun c29 => ?_)
      · rw [if_pos c29] at h
        refine r_iinc (v := v23 + 1) [(0, .ref (ad_ G 0)), (1, .int v22), (2, .int (v23 + 1))] 2 [1, 2, 0] dX11_worst_49 rfl rfl (by decide) rfl ?_
        refine r_goto 5 dX11_worst_52 (by decide) ?_
        obtain rfl := Option.some.inj h
        exact hB (v22, v23 + 1) rfl
      · rw [if_neg c29] at h
        refine r_iload_n 1 dX11_worst_29 rfl rfl ?_
        refine r_bipush (v := (-4)) dX11_worst_30 rfl ?_
        refine r_icmp_eq 47 dX11_worst_32 (by decide) (fun c28 => ?_) (fun c28 => ?_)
        · rw [if_pos c28] at h
          refine r_iload_n 2 dX11_worst_47 rfl rfl ?_
          refine r_istore_n (i := 1) [(0, .ref (ad_ G 0)), (1, .int v23), (2, .int v23)] [1, 0, 2] dX11_worst_48 rfl (by decide) rfl ?_
          refine r_iinc (v := v23 + 1) [(0, .ref (ad_ G 0)), (1, .int v23), (2, .int (v23 + 1))] 2 [1, 2, 0] dX11_worst_49 rfl rfl (by decide) rfl ?_
          refine r_goto 5 dX11_worst_52 (by decide) ?_
          obtain rfl := Option.some.inj h
          exact hB (v23, v23 + 1) rfl
        · rw [if_neg c28] at h
          refine r_aload_n 0 dX11_worst_35 rfl rfl ?_
          refine r_getC (k := 0) (j := 8) (r := 49) sX_0 rfl fl_X11_66 dX11_worst_36 ?_
          refine r_iload_n 2 dX11_worst_39 rfl rfl ?_
          refine r_iload_n 1 dX11_worst_40 rfl rfl ?_
          obtain ⟨x26, hx26, h⟩ := b1_some h
          refine r_callVi (k := 49) (rest := []) (by omega) (mX5_isWorse hx26) sX_49 rfl rfl cb_X5_isWorse ml_X11_381 im_X5_isWorse se_X5_isWorse rfl rfl (Nat.le_of_ble_eq_true rfl) dX11_worst_41 ?_
          refine r_if_eq 49 dX11_worst_44 (by decide) (fun c27 => ?_) (fun c27 => ?_)
          · rw [if_pos c27] at h
            refine r_iinc (v := v23 + 1) [(0, .ref (ad_ G 0)), (1, .int v22), (2, .int (v23 + 1))] 2 [1, 2, 0] dX11_worst_49 rfl rfl (by decide) rfl ?_
            refine r_goto 5 dX11_worst_52 (by decide) ?_
            obtain rfl := Option.some.inj h
            exact hB (v22, v23 + 1) rfl
          · rw [if_neg c27] at h
            refine r_iload_n 2 dX11_worst_47 rfl rfl ?_
            refine r_istore_n (i := 1) [(0, .ref (ad_ G 0)), (1, .int v23), (2, .int v23)] [1, 0, 2] dX11_worst_48 rfl (by decide) rfl ?_
            refine r_iinc (v := v23 + 1) [(0, .ref (ad_ G 0)), (1, .int v23), (2, .int (v23 + 1))] 2 [1, 2, 0] dX11_worst_49 rfl rfl (by decide) rfl ?_
            refine r_goto 5 dX11_worst_52 (by decide) ?_
            obtain rfl := Option.some.inj h
            exact hB (v23, v23 + 1) rfl
  obtain ⟨u31, hu31, h⟩ := b1_some h
  refine key u31 hu31 ?_
  show Rn G shX 3 yX11_worst cX11_worst 3 (some .int) 55 [(1, .int u31)] [] S post
  refine r_iload_n 0 dX11_worst_55 rfl rfl ?_
  obtain rfl := Option.some.inj h
  exact r_ireturn rfl dX11_worst_56 (hp)
theorem mX11_worst {G : Gx} {S : St} {o : Int32}  (h : fX11_worst S = some o) : MR_ G shX 3 yX11_worst cX11_worst 3 (some .int) [.ref (ad_ G 0)] S (PI_ o S) := MR_of cb_X11_worst (Nat.le_of_ble_eq_true rfl) [(0, .ref (ad_ G 0))] rfl (tX11_worst  h ⟨rfl, rfl⟩)
set_option maxRecDepth 100000 in
set_option maxHeartbeats 4000000 in
theorem tX8_renew {G : Gx} {post : Option Value → St → Prop} {k0 : Nat} {S : St} {v1 : Int32} {v2 : Int32} {o : St} (hk0 : IsSt k0) (h : fX8_renew k0 S v1 v2 = some o) (hp : post none o) : Rn G shX 0 yX8_renew cX8_renew 4 none 0 [(0, .ref (ad_ G k0)), (1, .int v1), (2, .int v2)] [] S post := by
  unfold fX8_renew at h
  refine r_aload_n 0 dX8_renew_0 rfl rfl ?_
  refine r_iload_n 1 dX8_renew_1 rfl rfl ?_
  obtain ⟨S21, hS21, h⟩ := b1_some h
  refine r_setI (k := k0) (j := 0) hk0.1 rfl pf_X8_11 hS21 dX8_renew_2 ?_
  refine r_aload_n 0 dX8_renew_5 rfl rfl ?_
  refine r_iload_n 2 dX8_renew_6 rfl rfl ?_
  obtain ⟨S22, hS22, h⟩ := b1_some h
  refine r_setI (k := k0) (j := 1) hk0.1 rfl pf_X8_15 hS22 dX8_renew_7 ?_
  refine r_iconst (v := 0) dX8_renew_10 rfl ?_
  refine r_istore_n (i := 3) [(0, .ref (ad_ G k0)), (1, .int v1), (2, .int v2), (3, .int 0)] [1, 2, 3, 0] dX8_renew_11 rfl (by decide) rfl ?_
  refine r_sub [(0, .ref (ad_ G k0)), (3, .int 0)] [0, 3] rfl ?_
  have key : ∀ ex, lp (fun w23 : Int32 × St => bX8_renew_12 k0 w23.1 w23.2) 5000 (0, S22) = some ex → (fun u28 : St => Rn G shX 0 yX8_renew cX8_renew 4 none 31 [] [] u28 post) ex → Rn G shX 0 yX8_renew cX8_renew 4 none 12 [(0, .ref (ad_ G k0)), (3, .int 0)] [] S22 post := by
    intro ex hl hx
    refine lp_rule (body := (fun w23 : Int32 × St => bX8_renew_12 k0 w23.1 w23.2)) (R := (fun w23 : Int32 × St => Rn G shX 0 yX8_renew cX8_renew 4 none 12 [(0, .ref (ad_ G k0)), (3, .int w23.1)] [] w23.2 post)) (X := (fun u28 : St => Rn G shX 0 yX8_renew cX8_renew 4 none 31 [] [] u28 post)) ?_ 5000 (0, S22) ex hl hx
    intro w23 oo h hB hX
    obtain ⟨v24, S25⟩ := w23
    replace h : bX8_renew_12 k0 v24 S25 = some oo := h
    unfold bX8_renew_12 at h
    show Rn G shX 0 yX8_renew cX8_renew 4 none 12 [(0, .ref (ad_ G k0)), (3, .int v24)] [] S25 post
    refine r_iload_n 1 dX8_renew_12 rfl rfl ?_
    refine r_bipush (v := 64) dX8_renew_13 rfl ?_
    refine r_icmp_ge 31 dX8_renew_15 (by decide) (fun c27 => ?_) (fun c27 => ?_)
    · rw [if_pos c27] at h
      refine r_sub [] [] rfl ?_
      obtain rfl := Option.some.inj h
      exact hX S25 rfl
    · rw [if_neg c27] at h
      refine r_aload_n 0 dX8_renew_18 rfl rfl ?_
      refine r_getC (k := k0) (j := 2) (r := k0 + 1) hk0.1 rfl fl_X8_18 dX8_renew_19 ?_
      refine r_iload_n 1 dX8_renew_22 rfl rfl ?_
      refine r_iconst (v := 0) dX8_renew_23 rfl ?_
      obtain ⟨S26, hS26, h⟩ := b1_some h
      refine r_iastore hk0.2 hS26 dX8_renew_24 ?_
      refine r_iinc (v := v24 + 1) [(0, .ref (ad_ G k0)), (3, .int (v24 + 1))] 1 [1, 0] dX8_renew_25 rfl rfl (by decide) rfl ?_
      refine r_goto 12 dX8_renew_28 (by decide) ?_
      obtain rfl := Option.some.inj h
      exact hB (v24 + 1, S26) rfl
  obtain ⟨u28, hu28, h⟩ := b1_some h
  refine key u28 hu28 ?_
  show Rn G shX 0 yX8_renew cX8_renew 4 none 31 [] [] u28 post
  obtain rfl := Option.some.inj h
  exact r_return rfl dX8_renew_31 (hp)
theorem mX8_renew {G : Gx} {k0 : Nat} {S : St} {v1 : Int32} {v2 : Int32} {o : St} (hk0 : IsSt k0) (h : fX8_renew k0 S v1 v2 = some o) : MR_ G shX 0 yX8_renew cX8_renew 4 none [.ref (ad_ G k0), .int v1, .int v2] S (PV_ o) := MR_of cb_X8_renew (Nat.le_of_ble_eq_true rfl) [(0, .ref (ad_ G k0)), (1, .int v1), (2, .int v2)] rfl (tX8_renew hk0 h ⟨rfl, rfl⟩)
set_option maxRecDepth 100000 in
set_option maxHeartbeats 4000000 in
theorem tX11_sheet {G : Gx} {post : Option Value → St → Prop} {S : St} {v1 : Int32} {v2 : Int32} {v3 : Int32} {o : (Int32 × St)}  (h : fX11_sheet S v1 v2 v3 = some o) (hp : post (some (.int o.1)) o.2) : Rn G shX 1 yX11_sheet cX11_sheet 4 (some .int) 0 [(0, .ref (ad_ G 0)), (1, .int v1), (2, .int v2), (3, .int v3)] [] S post := by
  unfold fX11_sheet at h
  refine r_iload_n 1 dX11_sheet_0 rfl rfl ?_
  refine r_iconst (v := 0) dX11_sheet_1 rfl ?_
  refine r_iconst (v := 3) dX11_sheet_2 rfl ?_
  obtain ⟨x21, hx21, h⟩ := b1_some h
  refine r_callSi (rest := []) (by omega) (mX11_within hx21) cb_X11_within ml_X11_103 sm_X11_within rfl rfl (Nat.le_of_ble_eq_true rfl) dX11_sheet_3 ?_
  refine r_if_eq 24 dX11_sheet_6 (by decide) (fun c28 => ?_) (fun c28 => ?_)
  · rw [if_pos c28] at h
    refine r_iconst (v := (-1)) dX11_sheet_24 rfl ?_
    obtain rfl := Option.some.inj h
    exact r_ireturn rfl dX11_sheet_25 (hp)
  · rw [if_neg c28] at h
    refine r_iload_n 2 dX11_sheet_9 rfl rfl ?_
    refine r_iconst (v := 0) dX11_sheet_10 rfl ?_
    refine r_iconst (v := 2) dX11_sheet_11 rfl ?_
    obtain ⟨x22, hx22, h⟩ := b1_some h
    refine r_callSi (rest := []) (by omega) (mX11_within hx22) cb_X11_within ml_X11_103 sm_X11_within rfl rfl (Nat.le_of_ble_eq_true rfl) dX11_sheet_12 ?_
    refine r_if_eq 24 dX11_sheet_15 (by decide) (fun c27 => ?_) (fun c27 => ?_)
    · rw [if_pos c27] at h
      refine r_iconst (v := (-1)) dX11_sheet_24 rfl ?_
      obtain rfl := Option.some.inj h
      exact r_ireturn rfl dX11_sheet_25 (hp)
    · rw [if_neg c27] at h
      refine r_iload_n 3 dX11_sheet_18 rfl rfl ?_
      refine r_bipush (v := 64) dX11_sheet_19 rfl ?_
      refine r_icmp_le 26 dX11_sheet_21 (by decide) (fun c26 => ?_) (fun c26 => ?_)
      · rw [if_pos c26] at h
        refine r_iload_n 3 dX11_sheet_26 rfl rfl ?_
        refine r_if_ge 33 dX11_sheet_27 (by decide) (fun c25 => ?_) (fun c25 => ?_)
        · rw [if_pos c25] at h
          refine r_aload_n 0 dX11_sheet_33 rfl rfl ?_
          refine r_getC (k := 0) (j := 13) (r := 74) sX_0 rfl fl_X11_98 dX11_sheet_34 ?_
          refine r_iload_n 1 dX11_sheet_37 rfl rfl ?_
          obtain ⟨k23, hk23, h⟩ := b1_some h
          have ik23 := is_sheets hk23
          refine r_aaload (t := 1) sX_74 rfl hk23 dX11_sheet_38 ?_
          refine r_iload_n 2 dX11_sheet_39 rfl rfl ?_
          refine r_iload_n 3 dX11_sheet_40 rfl rfl ?_
          obtain ⟨S24, hS24, h⟩ := b1_some h
          refine r_callVv (k := k23) (rest := []) (by omega) (mX8_renew ik23 hS24) ik23.1 rfl rfl cb_X8_renew ml_X11_384 im_X8_renew se_X8_renew rfl rfl (Nat.le_of_ble_eq_true rfl) dX11_sheet_41 ?_
          refine r_iconst (v := 1) dX11_sheet_44 rfl ?_
          obtain rfl := Option.some.inj h
          exact r_ireturn rfl dX11_sheet_45 (hp)
        · rw [if_neg c25] at h
          refine r_bipush (v := (-14)) dX11_sheet_30 rfl ?_
          obtain rfl := Option.some.inj h
          exact r_ireturn rfl dX11_sheet_32 (hp)
      · rw [if_neg c26] at h
        refine r_iconst (v := (-1)) dX11_sheet_24 rfl ?_
        obtain rfl := Option.some.inj h
        exact r_ireturn rfl dX11_sheet_25 (hp)
theorem mX11_sheet {G : Gx} {S : St} {v1 : Int32} {v2 : Int32} {v3 : Int32} {o : (Int32 × St)}  (h : fX11_sheet S v1 v2 v3 = some o) : MR_ G shX 1 yX11_sheet cX11_sheet 4 (some .int) [.ref (ad_ G 0), .int v1, .int v2, .int v3] S (PI_ o.1 o.2) := MR_of cb_X11_sheet (Nat.le_of_ble_eq_true rfl) [(0, .ref (ad_ G 0)), (1, .int v1), (2, .int v2), (3, .int v3)] rfl (tX11_sheet  h ⟨rfl, rfl⟩)
set_option maxRecDepth 100000 in
set_option maxHeartbeats 4000000 in
theorem tX8_isNothing {G : Gx} {post : Option Value → St → Prop} {k0 : Nat} {S : St} {o : Int32} (hk0 : IsSt k0) (h : fX8_isNothing k0 S = some o) (hp : post (some (.int o)) S) : Rn G shX 0 yX8_isNothing cX8_isNothing 1 (some .boolean) 0 [(0, .ref (ad_ G k0))] [] S post := by
  unfold fX8_isNothing at h
  refine r_aload_n 0 dX8_isNothing_0 rfl rfl ?_
  refine r_getI (k := k0) (j := 0) hk0.1 rfl fl_X8_11 dX8_isNothing_1 ?_
  refine r_iconst (v := (-1)) dX8_isNothing_4 rfl ?_
  refine r_icmp_ne 12 dX8_isNothing_5 (by decide) (fun c21 => ?_) (fun c21 => ?_)
  · rw [if_neg c21] at h
    refine r_iconst (v := 0) dX8_isNothing_12 rfl ?_
    obtain rfl := Option.some.inj h
    exact r_zreturn rfl (by decide) dX8_isNothing_13 (hp)
  · rw [if_pos c21] at h
    refine r_iconst (v := 1) dX8_isNothing_8 rfl ?_
    refine r_goto 13 dX8_isNothing_9 (by decide) ?_
    obtain rfl := Option.some.inj h
    exact r_zreturn rfl (by decide) dX8_isNothing_13 (hp)
theorem mX8_isNothing {G : Gx} {k0 : Nat} {S : St} {o : Int32} (hk0 : IsSt k0) (h : fX8_isNothing k0 S = some o) : MR_ G shX 0 yX8_isNothing cX8_isNothing 1 (some .boolean) [.ref (ad_ G k0)] S (PI_ o S) := MR_of cb_X8_isNothing (Nat.le_of_ble_eq_true rfl) [(0, .ref (ad_ G k0))] rfl (tX8_isNothing hk0 h ⟨rfl, rfl⟩)
set_option maxRecDepth 100000 in
set_option maxHeartbeats 4000000 in
theorem tX8_has {G : Gx} {post : Option Value → St → Prop} {k0 : Nat} {S : St} {v1 : Int32} {o : Int32} (hk0 : IsSt k0) (h : fX8_has k0 S v1 = some o) (hp : post (some (.int o)) S) : Rn G shX 1 yX8_has cX8_has 2 (some .boolean) 0 [(0, .ref (ad_ G k0)), (1, .int v1)] [] S post := by
  unfold fX8_has at h
  refine r_iload_n 1 dX8_has_0 rfl rfl ?_
  refine r_iconst (v := 0) dX8_has_1 rfl ?_
  refine r_aload_n 0 dX8_has_2 rfl rfl ?_
  refine r_getI (k := k0) (j := 1) hk0.1 rfl fl_X8_15 dX8_has_3 ?_
  refine r_iconst (v := 1) dX8_has_6 rfl ?_
  refine r_isub dX8_has_7 ?_
  obtain ⟨x21, hx21, h⟩ := b1_some h
  refine r_callSNi (rest := []) (by omega) (mX11_within hx21) cb_X11_within (by decide) sm_X11_within rfl rfl (Nat.le_of_ble_eq_true rfl) dX8_has_8 ?_
  obtain ⟨z22, hz22, h⟩ := b1_some h
  obtain ⟨ez22, nz22⟩ := bz_some hz22
  rw [ez22] at h
  obtain rfl := Option.some.inj h
  exact r_zreturn rfl nz22 dX8_has_11 (hp)
theorem mX8_has {G : Gx} {k0 : Nat} {S : St} {v1 : Int32} {o : Int32} (hk0 : IsSt k0) (h : fX8_has k0 S v1 = some o) : MR_ G shX 1 yX8_has cX8_has 2 (some .boolean) [.ref (ad_ G k0), .int v1] S (PI_ o S) := MR_of cb_X8_has (Nat.le_of_ble_eq_true rfl) [(0, .ref (ad_ G k0)), (1, .int v1)] rfl (tX8_has hk0 h ⟨rfl, rfl⟩)
set_option maxRecDepth 100000 in
set_option maxHeartbeats 4000000 in
theorem tX8_put {G : Gx} {post : Option Value → St → Prop} {k0 : Nat} {S : St} {v1 : Int32} {v2 : Int32} {o : St} (hk0 : IsSt k0) (h : fX8_put k0 S v1 v2 = some o) (hp : post none o) : Rn G shX 0 yX8_put cX8_put 3 none 0 [(0, .ref (ad_ G k0)), (1, .int v1), (2, .int v2)] [] S post := by
  unfold fX8_put at h
  refine r_aload_n 0 dX8_put_0 rfl rfl ?_
  refine r_getC (k := k0) (j := 2) (r := k0 + 1) hk0.1 rfl fl_X8_18 dX8_put_1 ?_
  refine r_iload_n 1 dX8_put_4 rfl rfl ?_
  refine r_aload_n 0 dX8_put_5 rfl rfl ?_
  refine r_getI (k := k0) (j := 0) hk0.1 rfl fl_X8_11 dX8_put_6 ?_
  refine r_if_ne 17 dX8_put_9 (by decide) (fun c25 => ?_) (fun c25 => ?_)
  · rw [if_neg c25] at h
    refine r_aload_n 0 dX8_put_17 rfl rfl ?_
    refine r_getI (k := k0) (j := 0) hk0.1 rfl fl_X8_11 dX8_put_18 ?_
    refine r_iconst (v := 1) dX8_put_21 rfl ?_
    refine r_icmp_ne 30 dX8_put_22 (by decide) (fun c23 => ?_) (fun c23 => ?_)
    · rw [if_neg c23] at h
      refine r_iload_n 2 dX8_put_30 rfl rfl ?_
      obtain ⟨S21, hS21, h⟩ := b1_some h
      refine r_iastore hk0.2 hS21 dX8_put_31 ?_
      obtain rfl := Option.some.inj h
      exact r_return rfl dX8_put_32 (hp)
    · rw [if_pos c23] at h
      refine r_iload_n 2 dX8_put_25 rfl rfl ?_
      refine r_i2s dX8_put_26 ?_
      refine r_goto 31 dX8_put_27 (by decide) ?_
      obtain ⟨S22, hS22, h⟩ := b1_some h
      refine r_iastore hk0.2 hS22 dX8_put_31 ?_
      obtain rfl := Option.some.inj h
      exact r_return rfl dX8_put_32 (hp)
  · rw [if_pos c25] at h
    refine r_iload_n 2 dX8_put_12 rfl rfl ?_
    refine r_i2b dX8_put_13 ?_
    refine r_goto 31 dX8_put_14 (by decide) ?_
    obtain ⟨S24, hS24, h⟩ := b1_some h
    refine r_iastore hk0.2 hS24 dX8_put_31 ?_
    obtain rfl := Option.some.inj h
    exact r_return rfl dX8_put_32 (hp)
theorem mX8_put {G : Gx} {k0 : Nat} {S : St} {v1 : Int32} {v2 : Int32} {o : St} (hk0 : IsSt k0) (h : fX8_put k0 S v1 v2 = some o) : MR_ G shX 0 yX8_put cX8_put 3 none [.ref (ad_ G k0), .int v1, .int v2] S (PV_ o) := MR_of cb_X8_put (Nat.le_of_ble_eq_true rfl) [(0, .ref (ad_ G k0)), (1, .int v1), (2, .int v2)] rfl (tX8_put hk0 h ⟨rfl, rfl⟩)
set_option maxRecDepth 100000 in
set_option maxHeartbeats 4000000 in
theorem tX11_lay {G : Gx} {post : Option Value → St → Prop} {S : St} {v1 : Int32} {v2 : Int32} {v3 : Int32} {o : (Int32 × St)}  (h : fX11_lay S v1 v2 v3 = some o) (hp : post (some (.int o.1)) o.2) : Rn G shX 2 yX11_lay cX11_lay 5 (some .int) 0 [(0, .ref (ad_ G 0)), (1, .int v1), (2, .int v2), (3, .int v3)] [] S post := by
  unfold fX11_lay at h
  refine r_iload_n 1 dX11_lay_0 rfl rfl ?_
  refine r_iconst (v := 0) dX11_lay_1 rfl ?_
  refine r_iconst (v := 3) dX11_lay_2 rfl ?_
  obtain ⟨x21, hx21, h⟩ := b1_some h
  refine r_callSi (rest := []) (by omega) (mX11_within hx21) cb_X11_within ml_X11_103 sm_X11_within rfl rfl (Nat.le_of_ble_eq_true rfl) dX11_lay_3 ?_
  refine r_if_ne 11 dX11_lay_6 (by decide) (fun c28 => ?_) (fun c28 => ?_)
  · rw [if_neg c28] at h
    refine r_aload_n 0 dX11_lay_11 rfl rfl ?_
    refine r_getC (k := 0) (j := 13) (r := 74) sX_0 rfl fl_X11_98 dX11_lay_12 ?_
    refine r_iload_n 1 dX11_lay_15 rfl rfl ?_
    obtain ⟨k22, hk22, h⟩ := b1_some h
    have ik22 := is_sheets hk22
    refine r_aaload (t := 1) sX_74 rfl hk22 dX11_lay_16 ?_
    refine r_astore (i := 4) [(0, .ref (ad_ G 0)), (1, .int v1), (2, .int v2), (3, .int v3), (4, .ref (ad_ G k22))] [1, 2, 3, 4, 0] dX11_lay_17 (by decide) rfl ?_
    refine r_aload 4 dX11_lay_19 rfl ?_
    obtain ⟨x23, hx23, h⟩ := b1_some h
    refine r_callVi (k := k22) (rest := []) (by omega) (mX8_isNothing ik22 hx23) ik22.1 rfl rfl cb_X8_isNothing ml_X11_385 im_X8_isNothing se_X8_isNothing rfl rfl (Nat.le_of_ble_eq_true rfl) dX11_lay_21 ?_
    refine r_if_eq 30 dX11_lay_24 (by decide) (fun c27 => ?_) (fun c27 => ?_)
    · rw [if_pos c27] at h
      refine r_aload 4 dX11_lay_30 rfl ?_
      refine r_iload_n 2 dX11_lay_32 rfl rfl ?_
      obtain ⟨x24, hx24, h⟩ := b1_some h
      refine r_callVi (k := k22) (rest := []) (by omega) (mX8_has ik22 hx24) ik22.1 rfl rfl cb_X8_has ml_X11_389 im_X8_has se_X8_has rfl rfl (Nat.le_of_ble_eq_true rfl) dX11_lay_33 ?_
      refine r_if_ne 42 dX11_lay_36 (by decide) (fun c26 => ?_) (fun c26 => ?_)
      · rw [if_neg c26] at h
        refine r_aload 4 dX11_lay_42 rfl ?_
        refine r_iload_n 2 dX11_lay_44 rfl rfl ?_
        refine r_iload_n 3 dX11_lay_45 rfl rfl ?_
        obtain ⟨S25, hS25, h⟩ := b1_some h
        refine r_callVv (k := k22) (rest := []) (by omega) (mX8_put ik22 hS25) ik22.1 rfl rfl cb_X8_put ml_X11_390 im_X8_put se_X8_put rfl rfl (Nat.le_of_ble_eq_true rfl) dX11_lay_46 ?_
        refine r_iconst (v := 1) dX11_lay_49 rfl ?_
        obtain rfl := Option.some.inj h
        exact r_ireturn rfl dX11_lay_50 (hp)
      · rw [if_pos c26] at h
        refine r_bipush (v := (-12)) dX11_lay_39 rfl ?_
        obtain rfl := Option.some.inj h
        exact r_ireturn rfl dX11_lay_41 (hp)
    · rw [if_neg c27] at h
      refine r_bipush (v := (-11)) dX11_lay_27 rfl ?_
      obtain rfl := Option.some.inj h
      exact r_ireturn rfl dX11_lay_29 (hp)
  · rw [if_pos c28] at h
    refine r_iconst (v := (-1)) dX11_lay_9 rfl ?_
    obtain rfl := Option.some.inj h
    exact r_ireturn rfl dX11_lay_10 (hp)
theorem mX11_lay {G : Gx} {S : St} {v1 : Int32} {v2 : Int32} {v3 : Int32} {o : (Int32 × St)}  (h : fX11_lay S v1 v2 v3 = some o) : MR_ G shX 2 yX11_lay cX11_lay 5 (some .int) [.ref (ad_ G 0), .int v1, .int v2, .int v3] S (PI_ o.1 o.2) := MR_of cb_X11_lay (Nat.le_of_ble_eq_true rfl) [(0, .ref (ad_ G 0)), (1, .int v1), (2, .int v2), (3, .int v3)] rfl (tX11_lay  h ⟨rfl, rfl⟩)
set_option maxRecDepth 100000 in
set_option maxHeartbeats 4000000 in
theorem tX11_refusalOf {G : Gx} {post : Option Value → St → Prop} {k1 : Nat} {S : St} {v2 : Int32} {o : Int32} (hk1 : IsSt k1) (h : fX11_refusalOf k1 S v2 = some o) (hp : post (some (.int o)) S) : Rn G shX 2 yX11_refusalOf cX11_refusalOf 5 (some .int) 0 [(0, .ref (ad_ G 0)), (1, .ref (ad_ G k1)), (2, .int v2)] [] S post := by
  unfold fX11_refusalOf at h
  refine r_aload_n 0 dX11_refusalOf_0 rfl rfl ?_
  refine r_getC (k := 0) (j := 0) (r := 1) sX_0 rfl fl_X11_10 dX11_refusalOf_1 ?_
  refine r_getI (k := 1) (j := 0) sX_1 rfl fl_X11_216 dX11_refusalOf_4 ?_
  refine r_aload_n 0 dX11_refusalOf_7 rfl rfl ?_
  refine r_getC (k := 0) (j := 0) (r := 1) sX_0 rfl fl_X11_10 dX11_refusalOf_8 ?_
  refine r_getI (k := 1) (j := 1) sX_1 rfl fl_X11_218 dX11_refusalOf_11 ?_
  refine r_imul dX11_refusalOf_14 ?_
  refine r_istore_n (i := 3) [(0, .ref (ad_ G 0)), (1, .ref (ad_ G k1)), (2, .int v2), (3, .int ((gI_ S 1 0) * (gI_ S 1 1)))] [1, 2, 3, 0] dX11_refusalOf_15 rfl (by decide) rfl ?_
  refine r_iconst (v := 0) dX11_refusalOf_16 rfl ?_
  refine r_istore (i := 4) [(0, .ref (ad_ G 0)), (1, .ref (ad_ G k1)), (2, .int v2), (3, .int ((gI_ S 1 0) * (gI_ S 1 1))), (4, .int 0)] [1, 2, 3, 4, 0] dX11_refusalOf_17 (by decide) rfl ?_
  refine r_sub [(1, .ref (ad_ G k1)), (2, .int v2), (3, .int ((gI_ S 1 0) * (gI_ S 1 1))), (4, .int 0)] [1, 2, 3, 4] rfl ?_
  have key : ∀ ex, lp (fun w21 : Int32 => bX11_refusalOf_19 k1 S v2 w21) 5000 0 = some ex → (fun ex : (Unit) ⊕ Int32 => match ex with | .inl u29 => Rn G shX 2 yX11_refusalOf cX11_refusalOf 5 (some .int) 69 [] [] S post | .inr rr => post (some (.int rr)) S) ex → Rn G shX 2 yX11_refusalOf cX11_refusalOf 5 (some .int) 19 [(1, .ref (ad_ G k1)), (2, .int v2), (3, .int ((gI_ S 1 0) * (gI_ S 1 1))), (4, .int 0)] [] S post := by
    intro ex hl hx
    refine lp_rule (body := (fun w21 : Int32 => bX11_refusalOf_19 k1 S v2 w21)) (R := (fun w21 : Int32 => Rn G shX 2 yX11_refusalOf cX11_refusalOf 5 (some .int) 19 [(1, .ref (ad_ G k1)), (2, .int v2), (3, .int ((gI_ S 1 0) * (gI_ S 1 1))), (4, .int w21)] [] S post)) (X := (fun ex : (Unit) ⊕ Int32 => match ex with | .inl u29 => Rn G shX 2 yX11_refusalOf cX11_refusalOf 5 (some .int) 69 [] [] S post | .inr rr => post (some (.int rr)) S)) ?_ 5000 0 ex hl hx
    intro w21 oo h hB hX
    obtain ⟨v22, rfl⟩ : ∃ z, z = w21 := ⟨_, rfl⟩
    replace h : bX11_refusalOf_19 k1 S v2 v22 = some oo := h
    unfold bX11_refusalOf_19 at h
    show Rn G shX 2 yX11_refusalOf cX11_refusalOf 5 (some .int) 19 [(1, .ref (ad_ G k1)), (2, .int v2), (3, .int ((gI_ S 1 0) * (gI_ S 1 1))), (4, .int v22)] [] S post
    refine r_iload 3 dX11_refusalOf_19 rfl ?_
    refine r_iload_n 2 dX11_refusalOf_21 rfl rfl ?_
    refine r_icmp_ge 69 dX11_refusalOf_22 (by decide) (fun c28 => ?_) (fun c28 => ?_)
    · rw [if_pos c28] at h
      refine r_sub [] [] rfl ?_
      obtain rfl := Option.some.inj h
      exact hX (.inl ()) rfl
    · rw [if_neg c28] at h
      refine r_aload_n 0 dX11_refusalOf_25 rfl rfl ?_
      refine r_iload_n 1 dX11_refusalOf_26 rfl rfl ?_
      refine r_iload 3 dX11_refusalOf_27 rfl ?_
      refine r_iadd dX11_refusalOf_29 ?_
      obtain ⟨x23, hx23, h⟩ := b1_some h
      refine r_callVi (k := k1) (rest := []) (by omega) (mX8_has hk1 hx23) hk1.1 rfl rfl cb_X8_has ml_X11_389 im_X8_has se_X8_has rfl rfl (Nat.le_of_ble_eq_true rfl) dX11_refusalOf_30 ?_
      refine r_if_ne 39 dX11_refusalOf_33 (by decide) (fun c27 => ?_) (fun c27 => ?_)
      · rw [if_neg c27] at h
        refine r_aload_n 0 dX11_refusalOf_39 rfl rfl ?_
        refine r_getC (k := k1) (j := 2) (r := k1 + 1) hk1.1 rfl fl_X11_408 dX11_refusalOf_40 ?_
        refine r_iload_n 1 dX11_refusalOf_43 rfl rfl ?_
        refine r_iload 3 dX11_refusalOf_44 rfl ?_
        refine r_iadd dX11_refusalOf_46 ?_
        obtain ⟨x24, hx24, h⟩ := b1_some h
        refine r_iaload hk1.2 hx24 dX11_refusalOf_47 ?_
        refine r_iconst (v := 0) dX11_refusalOf_48 rfl ?_
        refine r_bipush (v := 10) dX11_refusalOf_49 rfl ?_
        obtain ⟨x25, hx25, h⟩ := b1_some h
        refine r_callSi (rest := []) (by omega) (mX11_within hx25) cb_X11_within ml_X11_103 sm_X11_within rfl rfl (Nat.le_of_ble_eq_true rfl) dX11_refusalOf_51 ?_
        refine r_if_ne 63 dX11_refusalOf_54 (by decide) (fun c26 => ?_) (fun c26 => ?_)
        · rw [if_neg c26] at h
          refine r_iinc (v := v22 + 1) [(1, .ref (ad_ G k1)), (2, .int v2), (3, .int ((gI_ S 1 0) * (gI_ S 1 1))), (4, .int (v22 + 1))] 3 [1, 2, 3, 0] dX11_refusalOf_63 rfl rfl (by decide) rfl ?_
          refine r_goto 19 dX11_refusalOf_66 (by decide) ?_
          obtain rfl := Option.some.inj h
          exact hB (v22 + 1) rfl
        · rw [if_pos c26] at h
          refine r_bipush (v := (-100)) dX11_refusalOf_57 rfl ?_
          refine r_iload 3 dX11_refusalOf_59 rfl ?_
          refine r_isub dX11_refusalOf_61 ?_
          obtain rfl := Option.some.inj h
          exact r_ireturn rfl dX11_refusalOf_62 (hX (.inr ((-100) - v22)) rfl)
      · rw [if_pos c27] at h
        refine r_bipush (v := (-12)) dX11_refusalOf_36 rfl ?_
        obtain rfl := Option.some.inj h
        exact r_ireturn rfl dX11_refusalOf_38 (hX (.inr (-12)) rfl)
  rcases bs_some h with ⟨u29, hu29, h⟩ | ⟨rr, hu29, h⟩
  · refine key _ hu29 ?_
    show Rn G shX 2 yX11_refusalOf cX11_refusalOf 5 (some .int) 69 [] [] S post
    refine r_iconst (v := 0) dX11_refusalOf_69 rfl ?_
    obtain rfl := Option.some.inj h
    exact r_ireturn rfl dX11_refusalOf_70 (hp)
  · refine key _ hu29 ?_
    show post (some (.int rr)) S
    obtain rfl := Option.some.inj h
    exact hp
theorem mX11_refusalOf {G : Gx} {k1 : Nat} {S : St} {v2 : Int32} {o : Int32} (hk1 : IsSt k1) (h : fX11_refusalOf k1 S v2 = some o) : MR_ G shX 2 yX11_refusalOf cX11_refusalOf 5 (some .int) [.ref (ad_ G 0), .ref (ad_ G k1), .int v2] S (PI_ o S) := MR_of cb_X11_refusalOf (Nat.le_of_ble_eq_true rfl) [(0, .ref (ad_ G 0)), (1, .ref (ad_ G k1)), (2, .int v2)] rfl (tX11_refusalOf hk1 h ⟨rfl, rfl⟩)
set_option maxRecDepth 100000 in
set_option maxHeartbeats 4000000 in
theorem tX11_copyOnBoard {G : Gx} {post : Option Value → St → Prop} {k1 : Nat} {S : St} {v2 : Int32} {o : St} (hk1 : IsSt k1) (h : fX11_copyOnBoard k1 S v2 = some o) (hp : post none o) : Rn G shX 2 yX11_copyOnBoard cX11_copyOnBoard 7 none 0 [(0, .ref (ad_ G 0)), (1, .ref (ad_ G k1)), (2, .int v2)] [] S post := by
  unfold fX11_copyOnBoard at h
  refine r_iload_n 2 dX11_copyOnBoard_0 rfl rfl ?_
  refine r_istore_n (i := 3) [(0, .ref (ad_ G 0)), (1, .ref (ad_ G k1)), (2, .int v2), (3, .int v2)] [1, 2, 3, 0] dX11_copyOnBoard_1 rfl (by decide) rfl ?_
  refine r_iconst (v := 0) dX11_copyOnBoard_2 rfl ?_
  refine r_istore (i := 4) [(0, .ref (ad_ G 0)), (1, .ref (ad_ G k1)), (2, .int v2), (3, .int v2), (4, .int 0)] [1, 2, 3, 4, 0] dX11_copyOnBoard_3 (by decide) rfl ?_
  refine r_sub [(0, .ref (ad_ G 0)), (1, .ref (ad_ G k1)), (3, .int v2), (4, .int 0)] [0, 1, 3, 4] rfl ?_
  have key : ∀ ex, lp (fun w21 : Int32 × Int32 × St => bX11_copyOnBoard_5 k1 w21.1 w21.2.1 w21.2.2) 5000 (v2, 0, S) = some ex → (fun u42 : St => Rn G shX 2 yX11_copyOnBoard cX11_copyOnBoard 7 none 118 [] [] u42 post) ex → Rn G shX 2 yX11_copyOnBoard cX11_copyOnBoard 7 none 5 [(0, .ref (ad_ G 0)), (1, .ref (ad_ G k1)), (3, .int v2), (4, .int 0)] [] S post := by
    intro ex hl hx
    refine lp_rule (body := (fun w21 : Int32 × Int32 × St => bX11_copyOnBoard_5 k1 w21.1 w21.2.1 w21.2.2)) (R := (fun w21 : Int32 × Int32 × St => Rn G shX 2 yX11_copyOnBoard cX11_copyOnBoard 7 none 5 [(0, .ref (ad_ G 0)), (1, .ref (ad_ G k1)), (3, .int w21.1), (4, .int w21.2.1)] [] w21.2.2 post)) (X := (fun u42 : St => Rn G shX 2 yX11_copyOnBoard cX11_copyOnBoard 7 none 118 [] [] u42 post)) ?_ 5000 (v2, 0, S) ex hl hx
    intro w21 oo h hB hX
    obtain ⟨v22, v23, S24⟩ := w21
    replace h : bX11_copyOnBoard_5 k1 v22 v23 S24 = some oo := h
    unfold bX11_copyOnBoard_5 at h
    show Rn G shX 2 yX11_copyOnBoard cX11_copyOnBoard 7 none 5 [(0, .ref (ad_ G 0)), (1, .ref (ad_ G k1)), (3, .int v22), (4, .int v23)] [] S24 post
    refine r_iload 3 dX11_copyOnBoard_5 rfl ?_
    refine r_aload_n 0 dX11_copyOnBoard_7 rfl rfl ?_
    refine r_getC (k := 0) (j := 0) (r := 1) sX_0 rfl fl_X11_10 dX11_copyOnBoard_8 ?_
    refine r_getI (k := 1) (j := 1) sX_1 rfl fl_X11_218 dX11_copyOnBoard_11 ?_
    refine r_icmp_ge 118 dX11_copyOnBoard_14 (by decide) (fun c41 => ?_) (fun c41 => ?_)
    · rw [if_pos c41] at h
      refine r_sub [] [] rfl ?_
      obtain rfl := Option.some.inj h
      exact hX S24 rfl
    · rw [if_neg c41] at h
      refine r_iconst (v := 0) dX11_copyOnBoard_17 rfl ?_
      refine r_istore (i := 5) [(0, .ref (ad_ G 0)), (1, .ref (ad_ G k1)), (3, .int v22), (4, .int v23), (5, .int 0)] [1, 2, 3, 4, 0] dX11_copyOnBoard_18 (by decide) rfl ?_
      have key : ∀ ex, lp (fun w25 : Int32 × Int32 × St => bX11_copyOnBoard_20 k1 v23 w25.1 w25.2.1 w25.2.2) 5000 (v22, 0, S24) = some ex → (fun u40 : Int32 × St => Rn G shX 2 yX11_copyOnBoard cX11_copyOnBoard 7 none 112 [(0, .ref (ad_ G 0)), (1, .ref (ad_ G k1)), (3, .int u40.1), (4, .int v23)] [] u40.2 post) ex → Rn G shX 2 yX11_copyOnBoard cX11_copyOnBoard 7 none 20 [(0, .ref (ad_ G 0)), (1, .ref (ad_ G k1)), (3, .int v22), (4, .int v23), (5, .int 0)] [] S24 post := by
        intro ex hl hx
        refine lp_rule (body := (fun w25 : Int32 × Int32 × St => bX11_copyOnBoard_20 k1 v23 w25.1 w25.2.1 w25.2.2)) (R := (fun w25 : Int32 × Int32 × St => Rn G shX 2 yX11_copyOnBoard cX11_copyOnBoard 7 none 20 [(0, .ref (ad_ G 0)), (1, .ref (ad_ G k1)), (3, .int w25.1), (4, .int v23), (5, .int w25.2.1)] [] w25.2.2 post)) (X := (fun u40 : Int32 × St => Rn G shX 2 yX11_copyOnBoard cX11_copyOnBoard 7 none 112 [(0, .ref (ad_ G 0)), (1, .ref (ad_ G k1)), (3, .int u40.1), (4, .int v23)] [] u40.2 post)) ?_ 5000 (v22, 0, S24) ex hl hx
        intro w25 oo h hB hX
        obtain ⟨v26, v27, S28⟩ := w25
        replace h : bX11_copyOnBoard_20 k1 v23 v26 v27 S28 = some oo := h
        unfold bX11_copyOnBoard_20 at h
        show Rn G shX 2 yX11_copyOnBoard cX11_copyOnBoard 7 none 20 [(0, .ref (ad_ G 0)), (1, .ref (ad_ G k1)), (3, .int v26), (4, .int v23), (5, .int v27)] [] S28 post
        refine r_iload 4 dX11_copyOnBoard_20 rfl ?_
        refine r_aload_n 0 dX11_copyOnBoard_22 rfl rfl ?_
        refine r_getC (k := 0) (j := 0) (r := 1) sX_0 rfl fl_X11_10 dX11_copyOnBoard_23 ?_
        refine r_getI (k := 1) (j := 0) sX_1 rfl fl_X11_216 dX11_copyOnBoard_26 ?_
        refine r_icmp_ge 112 dX11_copyOnBoard_29 (by decide) (fun c39 => ?_) (fun c39 => ?_)
        · rw [if_pos c39] at h
          refine r_sub [(0, .ref (ad_ G 0)), (1, .ref (ad_ G k1)), (3, .int v26), (4, .int v23)] [0, 1, 2, 3] rfl ?_
          obtain rfl := Option.some.inj h
          exact hX (v26, S28) rfl
        · rw [if_neg c39] at h
          refine r_aload_n 1 dX11_copyOnBoard_32 rfl rfl ?_
          refine r_getC (k := k1) (j := 2) (r := k1 + 1) hk1.1 rfl fl_X11_408 dX11_copyOnBoard_33 ?_
          refine r_iload_n 2 dX11_copyOnBoard_36 rfl rfl ?_
          obtain ⟨x29, hx29, h⟩ := b1_some h
          refine r_iaload hk1.2 hx29 dX11_copyOnBoard_37 ?_
          refine r_bipush (v := 10) dX11_copyOnBoard_38 rfl ?_
          obtain ⟨w30, hw30, h⟩ := b1_some h
          have hJ : Rn G shX 2 yX11_copyOnBoard cX11_copyOnBoard 7 none 48 [(0, .ref (ad_ G 0)), (1, .ref (ad_ G k1)), (3, .int v26), (4, .int v23), (5, .int v27)] [.int w30] S28 post := by
            refine r_istore (i := 6) [(0, .ref (ad_ G 0)), (1, .ref (ad_ G k1)), (3, .int v26), (4, .int v23), (5, .int v27), (6, .int w30)] [1, 2, 3, 4, 5, 0] dX11_copyOnBoard_48 (by decide) rfl ?_
            refine r_aload_n 0 dX11_copyOnBoard_50 rfl rfl ?_
            refine r_getC (k := 0) (j := 0) (r := 1) sX_0 rfl fl_X11_10 dX11_copyOnBoard_51 ?_
            refine r_getC (k := 1) (j := 3) (r := 2) sX_1 rfl fl_X11_138 dX11_copyOnBoard_54 ?_
            refine r_iload 4 dX11_copyOnBoard_57 rfl ?_
            refine r_iload 3 dX11_copyOnBoard_59 rfl ?_
            obtain ⟨x31, hx31, h⟩ := b1_some h
            refine r_callSi (rest := [.ref (ad_ G 2)]) (by omega) (mX11_squareAt hx31) cb_X11_squareAt ml_X11_134 sm_X11_squareAt rfl rfl (Nat.le_of_ble_eq_true rfl) dX11_copyOnBoard_61 ?_
            refine r_iload 5 dX11_copyOnBoard_64 rfl ?_
            obtain ⟨w32, hw32, h⟩ := b1_some h
            have hJ : Rn G shX 2 yX11_copyOnBoard cX11_copyOnBoard 7 none 79 [(0, .ref (ad_ G 0)), (1, .ref (ad_ G k1)), (3, .int v26), (4, .int v23), (5, .int v27), (6, .int w30)] [.int w32, .int x31, .ref (ad_ G 2)] S28 post := by
              obtain ⟨S33, hS33, h⟩ := b1_some h
              refine r_iastore sX_2 hS33 dX11_copyOnBoard_79 ?_
              refine r_aload_n 0 dX11_copyOnBoard_80 rfl rfl ?_
              refine r_getC (k := 0) (j := 0) (r := 1) sX_0 rfl fl_X11_10 dX11_copyOnBoard_81 ?_
              refine r_aload_n 0 dX11_copyOnBoard_84 rfl rfl ?_
              refine r_getC (k := 0) (j := 0) (r := 1) sX_0 rfl fl_X11_10 dX11_copyOnBoard_85 ?_
              refine r_getL (k := 1) (j := 2) sX_1 rfl fl_X11_122 dX11_copyOnBoard_88 ?_
              refine r_iload 4 dX11_copyOnBoard_91 rfl ?_
              refine r_iload 3 dX11_copyOnBoard_93 rfl ?_
              refine r_iload 5 dX11_copyOnBoard_95 rfl ?_
              obtain ⟨x34, hx34, h⟩ := b1_some h
              refine r_callSl (rest := [.ref (ad_ G 1)]) (by omega) (mX11_withBit hx34) cb_X11_withBit ml_X11_130 sm_X11_withBit rfl rfl (Nat.le_of_ble_eq_true rfl) dX11_copyOnBoard_97 ?_
              obtain ⟨S35, hS35, h⟩ := b1_some h
              refine r_setL (k := 1) (j := 2) sX_1 rfl pf_X11_122 hS35 dX11_copyOnBoard_100 ?_
              refine r_iinc (v := v26 + 1) [(0, .ref (ad_ G 0)), (1, .ref (ad_ G k1)), (3, .int (v26 + 1)), (4, .int v23), (5, .int v27), (6, .int w30)] 2 [1, 2, 0, 3, 4, 5] dX11_copyOnBoard_103 rfl rfl (by decide) rfl ?_
              refine r_iinc (v := v27 + 1) [(0, .ref (ad_ G 0)), (1, .ref (ad_ G k1)), (3, .int (v26 + 1)), (4, .int v23), (5, .int (v27 + 1)), (6, .int w30)] 4 [1, 2, 3, 4, 0, 5] dX11_copyOnBoard_106 rfl rfl (by decide) rfl ?_
              refine r_goto 20 dX11_copyOnBoard_109 (by decide) ?_
              refine r_sub [(0, .ref (ad_ G 0)), (1, .ref (ad_ G k1)), (3, .int (v26 + 1)), (4, .int v23), (5, .int (v27 + 1))] [0, 1, 2, 3, 4] rfl ?_
              obtain rfl := Option.some.inj h
              exact hB (v26 + 1, v27 + 1, S35) rfl
            clear h
            replace h := hw32
            refine r_if_eq 73 dX11_copyOnBoard_66 (by decide) (fun c37 => ?_) (fun c37 => ?_)
            · rw [if_pos c37] at h
              refine r_aload_n 1 dX11_copyOnBoard_73 rfl rfl ?_
              refine r_getC (k := k1) (j := 2) (r := k1 + 1) hk1.1 rfl fl_X11_408 dX11_copyOnBoard_74 ?_
              refine r_iload_n 2 dX11_copyOnBoard_77 rfl rfl ?_
              obtain ⟨x36, hx36, h⟩ := b1_some h
              refine r_iaload hk1.2 hx36 dX11_copyOnBoard_78 ?_
              obtain rfl := Option.some.inj h
              exact hJ
            · rw [if_neg c37] at h
              refine r_iconst (v := 0) dX11_copyOnBoard_69 rfl ?_
              refine r_goto 79 dX11_copyOnBoard_70 (by decide) ?_
              obtain rfl := Option.some.inj h
              exact hJ
          clear h
          replace h := hw30
          refine r_icmp_ne 47 dX11_copyOnBoard_40 (by decide) (fun c38 => ?_) (fun c38 => ?_)
          · rw [if_neg c38] at h
            refine r_iconst (v := 0) dX11_copyOnBoard_47 rfl ?_
            obtain rfl := Option.some.inj h
            exact hJ
          · rw [if_pos c38] at h
            refine r_iconst (v := 1) dX11_copyOnBoard_43 rfl ?_
            refine r_goto 48 dX11_copyOnBoard_44 (by decide) ?_
            obtain rfl := Option.some.inj h
            exact hJ
      obtain ⟨u40, hu40, h⟩ := b1_some h
      refine key u40 hu40 ?_
      show Rn G shX 2 yX11_copyOnBoard cX11_copyOnBoard 7 none 112 [(0, .ref (ad_ G 0)), (1, .ref (ad_ G k1)), (3, .int u40.1), (4, .int v23)] [] u40.2 post
      refine r_iinc (v := v23 + 1) [(0, .ref (ad_ G 0)), (1, .ref (ad_ G k1)), (3, .int u40.1), (4, .int (v23 + 1))] 3 [1, 2, 3, 0] dX11_copyOnBoard_112 rfl rfl (by decide) rfl ?_
      refine r_goto 5 dX11_copyOnBoard_115 (by decide) ?_
      obtain rfl := Option.some.inj h
      exact hB (u40.1, v23 + 1, u40.2) rfl
  obtain ⟨u42, hu42, h⟩ := b1_some h
  refine key u42 hu42 ?_
  show Rn G shX 2 yX11_copyOnBoard cX11_copyOnBoard 7 none 118 [] [] u42 post
  obtain rfl := Option.some.inj h
  exact r_return rfl dX11_copyOnBoard_118 (hp)
theorem mX11_copyOnBoard {G : Gx} {k1 : Nat} {S : St} {v2 : Int32} {o : St} (hk1 : IsSt k1) (h : fX11_copyOnBoard k1 S v2 = some o) : MR_ G shX 2 yX11_copyOnBoard cX11_copyOnBoard 7 none [.ref (ad_ G 0), .ref (ad_ G k1), .int v2] S (PV_ o) := MR_of cb_X11_copyOnBoard (Nat.le_of_ble_eq_true rfl) [(0, .ref (ad_ G 0)), (1, .ref (ad_ G k1)), (2, .int v2)] rfl (tX11_copyOnBoard hk1 h ⟨rfl, rfl⟩)
set_option maxRecDepth 100000 in
set_option maxHeartbeats 4000000 in
theorem tJ13_bitCount_95d88 {G : Gx} {post : Option Value → St → Prop} {S : St} {v0 : Int64} {o : Int32}  (h : fJ13_bitCount_95d88 S v0 = some o) (hp : post (some (.int o)) S) : Rn G shX 0 yJ13_bitCount_95d88 cJ13_bitCount_95d88 2 (some .int) 0 [(0, .long v0)] [] S post := by
  unfold fJ13_bitCount_95d88 at h
  refine r_lload_n 0 dJ13_bitCount_95d88_0 rfl rfl ?_
  refine r_lload_n 0 dJ13_bitCount_95d88_1 rfl rfl ?_
  refine r_iconst (v := 1) dJ13_bitCount_95d88_2 rfl ?_
  refine r_lushr dJ13_bitCount_95d88_3 ?_
  refine r_ldc2 kl_J13_314 dJ13_bitCount_95d88_4 ?_
  refine r_land dJ13_bitCount_95d88_7 ?_
  refine r_lsub dJ13_bitCount_95d88_8 ?_
  obtain ⟨x21, hx21, h⟩ := b1_some h
  rw [Option.some.inj hx21]
  refine r_lstore_n (i := 0) [(0, .long x21)] [0] dJ13_bitCount_95d88_9 rfl (by decide) rfl ?_
  refine r_lload_n 0 dJ13_bitCount_95d88_10 rfl rfl ?_
  refine r_ldc2 kl_J13_316 dJ13_bitCount_95d88_11 ?_
  refine r_land dJ13_bitCount_95d88_14 ?_
  refine r_lload_n 0 dJ13_bitCount_95d88_15 rfl rfl ?_
  refine r_iconst (v := 2) dJ13_bitCount_95d88_16 rfl ?_
  refine r_lushr dJ13_bitCount_95d88_17 ?_
  refine r_ldc2 kl_J13_316 dJ13_bitCount_95d88_18 ?_
  refine r_land dJ13_bitCount_95d88_21 ?_
  refine r_ladd dJ13_bitCount_95d88_22 ?_
  obtain ⟨x22, hx22, h⟩ := b1_some h
  rw [Option.some.inj hx22]
  refine r_lstore_n (i := 0) [(0, .long x22)] [0] dJ13_bitCount_95d88_23 rfl (by decide) rfl ?_
  refine r_lload_n 0 dJ13_bitCount_95d88_24 rfl rfl ?_
  refine r_lload_n 0 dJ13_bitCount_95d88_25 rfl rfl ?_
  refine r_iconst (v := 4) dJ13_bitCount_95d88_26 rfl ?_
  refine r_lushr dJ13_bitCount_95d88_27 ?_
  refine r_ladd dJ13_bitCount_95d88_28 ?_
  refine r_ldc2 kl_J13_318 dJ13_bitCount_95d88_29 ?_
  refine r_land dJ13_bitCount_95d88_32 ?_
  obtain ⟨x23, hx23, h⟩ := b1_some h
  rw [Option.some.inj hx23]
  refine r_lstore_n (i := 0) [(0, .long x23)] [0] dJ13_bitCount_95d88_33 rfl (by decide) rfl ?_
  refine r_lload_n 0 dJ13_bitCount_95d88_34 rfl rfl ?_
  refine r_lload_n 0 dJ13_bitCount_95d88_35 rfl rfl ?_
  refine r_bipush (v := 8) dJ13_bitCount_95d88_36 rfl ?_
  refine r_lushr dJ13_bitCount_95d88_38 ?_
  refine r_ladd dJ13_bitCount_95d88_39 ?_
  obtain ⟨x24, hx24, h⟩ := b1_some h
  rw [Option.some.inj hx24]
  refine r_lstore_n (i := 0) [(0, .long x24)] [0] dJ13_bitCount_95d88_40 rfl (by decide) rfl ?_
  refine r_lload_n 0 dJ13_bitCount_95d88_41 rfl rfl ?_
  refine r_lload_n 0 dJ13_bitCount_95d88_42 rfl rfl ?_
  refine r_bipush (v := 16) dJ13_bitCount_95d88_43 rfl ?_
  refine r_lushr dJ13_bitCount_95d88_45 ?_
  refine r_ladd dJ13_bitCount_95d88_46 ?_
  obtain ⟨x25, hx25, h⟩ := b1_some h
  rw [Option.some.inj hx25]
  refine r_lstore_n (i := 0) [(0, .long x25)] [0] dJ13_bitCount_95d88_47 rfl (by decide) rfl ?_
  refine r_lload_n 0 dJ13_bitCount_95d88_48 rfl rfl ?_
  refine r_lload_n 0 dJ13_bitCount_95d88_49 rfl rfl ?_
  refine r_bipush (v := 32) dJ13_bitCount_95d88_50 rfl ?_
  refine r_lushr dJ13_bitCount_95d88_52 ?_
  refine r_ladd dJ13_bitCount_95d88_53 ?_
  obtain ⟨x26, hx26, h⟩ := b1_some h
  rw [Option.some.inj hx26]
  refine r_lstore_n (i := 0) [(0, .long x26)] [0] dJ13_bitCount_95d88_54 rfl (by decide) rfl ?_
  refine r_lload_n 0 dJ13_bitCount_95d88_55 rfl rfl ?_
  refine r_l2i dJ13_bitCount_95d88_56 ?_
  refine r_bipush (v := 127) dJ13_bitCount_95d88_57 rfl ?_
  refine r_iand dJ13_bitCount_95d88_59 ?_
  obtain rfl := Option.some.inj h
  exact r_ireturn rfl dJ13_bitCount_95d88_60 (hp)
theorem mJ13_bitCount_95d88 {G : Gx} {S : St} {v0 : Int64} {o : Int32}  (h : fJ13_bitCount_95d88 S v0 = some o) : MR_ G shX 0 yJ13_bitCount_95d88 cJ13_bitCount_95d88 2 (some .int) [.long v0] S (PI_ o S) := MR_of cb_J13_bitCount_95d88 (Nat.le_of_ble_eq_true rfl) [(0, .long v0)] rfl (tJ13_bitCount_95d88  h ⟨rfl, rfl⟩)
set_option maxRecDepth 100000 in
set_option maxHeartbeats 4000000 in
theorem tX11_draw {G : Gx} {post : Option Value → St → Prop} {S : St} {v1 : Int32} {v2 : Int32} {v3 : Int32} {o : (Int32 × St)}  (h : fX11_draw S v1 v2 v3 = some o) (hp : post (some (.int o.1)) o.2) : Rn G shX 3 yX11_draw cX11_draw 6 (some .int) 0 [(0, .ref (ad_ G 0)), (1, .int v1), (2, .int v2), (3, .int v3)] [] S post := by
  unfold fX11_draw at h
  refine r_iload_n 1 dX11_draw_0 rfl rfl ?_
  refine r_iconst (v := 0) dX11_draw_1 rfl ?_
  refine r_iconst (v := 3) dX11_draw_2 rfl ?_
  obtain ⟨x21, hx21, h⟩ := b1_some h
  refine r_callSi (rest := []) (by omega) (mX11_within hx21) cb_X11_within ml_X11_103 sm_X11_within rfl rfl (Nat.le_of_ble_eq_true rfl) dX11_draw_3 ?_
  refine r_if_eq 18 dX11_draw_6 (by decide) (fun c33 => ?_) (fun c33 => ?_)
  · rw [if_pos c33] at h
    refine r_iconst (v := (-1)) dX11_draw_18 rfl ?_
    obtain rfl := Option.some.inj h
    exact r_ireturn rfl dX11_draw_19 (hp)
  · rw [if_neg c33] at h
    refine r_iload_n 2 dX11_draw_9 rfl rfl ?_
    refine r_iconst (v := 0) dX11_draw_10 rfl ?_
    refine r_iconst (v := 2) dX11_draw_11 rfl ?_
    obtain ⟨x22, hx22, h⟩ := b1_some h
    refine r_callSi (rest := []) (by omega) (mX11_within hx22) cb_X11_within ml_X11_103 sm_X11_within rfl rfl (Nat.le_of_ble_eq_true rfl) dX11_draw_12 ?_
    refine r_if_ne 20 dX11_draw_15 (by decide) (fun c32 => ?_) (fun c32 => ?_)
    · rw [if_neg c32] at h
      refine r_aload_n 0 dX11_draw_20 rfl rfl ?_
      refine r_getC (k := 0) (j := 13) (r := 74) sX_0 rfl fl_X11_98 dX11_draw_21 ?_
      refine r_iload_n 1 dX11_draw_24 rfl rfl ?_
      obtain ⟨k23, hk23, h⟩ := b1_some h
      have ik23 := is_sheets hk23
      refine r_aaload (t := 1) sX_74 rfl hk23 dX11_draw_25 ?_
      refine r_astore (i := 4) [(0, .ref (ad_ G 0)), (1, .int v1), (2, .int v2), (3, .int v3), (4, .ref (ad_ G k23))] [1, 2, 3, 4, 0] dX11_draw_26 (by decide) rfl ?_
      refine r_aload 4 dX11_draw_28 rfl ?_
      obtain ⟨x24, hx24, h⟩ := b1_some h
      refine r_callVi (k := k23) (rest := []) (by omega) (mX8_isNothing ik23 hx24) ik23.1 rfl rfl cb_X8_isNothing ml_X11_385 im_X8_isNothing se_X8_isNothing rfl rfl (Nat.le_of_ble_eq_true rfl) dX11_draw_30 ?_
      refine r_if_eq 39 dX11_draw_33 (by decide) (fun c31 => ?_) (fun c31 => ?_)
      · rw [if_pos c31] at h
        refine r_aload 4 dX11_draw_39 rfl ?_
        refine r_getI (k := k23) (j := 0) ik23.1 rfl fl_X11_393 dX11_draw_41 ?_
        refine r_iload_n 2 dX11_draw_44 rfl rfl ?_
        refine r_icmp_eq 51 dX11_draw_45 (by decide) (fun c30 => ?_) (fun c30 => ?_)
        · rw [if_pos c30] at h
          refine r_aload_n 0 dX11_draw_51 rfl rfl ?_
          refine r_aload 4 dX11_draw_52 rfl ?_
          refine r_iload_n 3 dX11_draw_54 rfl rfl ?_
          obtain ⟨x25, hx25, h⟩ := b1_some h
          refine r_callVi (k := 0) (rest := []) (by omega) (mX11_refusalOf ik23 hx25) sX_0 rfl rfl cb_X11_refusalOf ml_X11_396 im_X11_refusalOf se_X11_refusalOf rfl rfl (Nat.le_of_ble_eq_true rfl) dX11_draw_55 ?_
          refine r_istore (i := 5) [(0, .ref (ad_ G 0)), (1, .int v1), (2, .int v2), (3, .int v3), (4, .ref (ad_ G k23)), (5, .int x25)] [1, 2, 3, 4, 5, 0] dX11_draw_58 (by decide) rfl ?_
          refine r_iload 5 dX11_draw_60 rfl ?_
          refine r_if_eq 68 dX11_draw_62 (by decide) (fun c29 => ?_) (fun c29 => ?_)
          · rw [if_pos c29] at h
            refine r_aload_n 0 dX11_draw_68 rfl rfl ?_
            refine r_getC (k := 0) (j := 1) (r := 3) sX_0 rfl fl_X11_19 dX11_draw_69 ?_
            refine r_aload_n 0 dX11_draw_72 rfl rfl ?_
            refine r_getC (k := 0) (j := 0) (r := 1) sX_0 rfl fl_X11_10 dX11_draw_73 ?_
            obtain ⟨S26, hS26, h⟩ := b1_some h
            refine r_callVv (k := 3) (rest := []) (by omega) (mX0_keep is_1 hS26) sX_3 rfl rfl cb_X0_keep ml_X11_118 im_X0_keep se_X0_keep rfl rfl (Nat.le_of_ble_eq_true rfl) dX11_draw_76 ?_
            refine r_aload_n 0 dX11_draw_79 rfl rfl ?_
            refine r_aload 4 dX11_draw_80 rfl ?_
            refine r_iload_n 3 dX11_draw_82 rfl rfl ?_
            obtain ⟨S27, hS27, h⟩ := b1_some h
            refine r_callVv (k := 0) (rest := []) (by omega) (mX11_copyOnBoard ik23 hS27) sX_0 rfl rfl cb_X11_copyOnBoard ml_X11_400 im_X11_copyOnBoard se_X11_copyOnBoard rfl rfl (Nat.le_of_ble_eq_true rfl) dX11_draw_83 ?_
            refine r_aload_n 0 dX11_draw_86 rfl rfl ?_
            refine r_getC (k := 0) (j := 0) (r := 1) sX_0 rfl fl_X11_10 dX11_draw_87 ?_
            refine r_getL (k := 1) (j := 2) sX_1 rfl fl_X11_122 dX11_draw_90 ?_
            obtain ⟨x28, hx28, h⟩ := b1_some h
            refine r_callSi (rest := []) (by omega) (mJ13_bitCount_95d88 hx28) cb_J13_bitCount_95d88 ml_X11_404 sm_J13_bitCount_95d88 rfl rfl (Nat.le_of_ble_eq_true rfl) dX11_draw_93 ?_
            obtain rfl := Option.some.inj h
            exact r_ireturn rfl dX11_draw_96 (hp)
          · rw [if_neg c29] at h
            refine r_iload 5 dX11_draw_65 rfl ?_
            obtain rfl := Option.some.inj h
            exact r_ireturn rfl dX11_draw_67 (hp)
        · rw [if_neg c30] at h
          refine r_bipush (v := (-13)) dX11_draw_48 rfl ?_
          obtain rfl := Option.some.inj h
          exact r_ireturn rfl dX11_draw_50 (hp)
      · rw [if_neg c31] at h
        refine r_bipush (v := (-11)) dX11_draw_36 rfl ?_
        obtain rfl := Option.some.inj h
        exact r_ireturn rfl dX11_draw_38 (hp)
    · rw [if_pos c32] at h
      refine r_iconst (v := (-1)) dX11_draw_18 rfl ?_
      obtain rfl := Option.some.inj h
      exact r_ireturn rfl dX11_draw_19 (hp)
theorem mX11_draw {G : Gx} {S : St} {v1 : Int32} {v2 : Int32} {v3 : Int32} {o : (Int32 × St)}  (h : fX11_draw S v1 v2 v3 = some o) : MR_ G shX 3 yX11_draw cX11_draw 6 (some .int) [.ref (ad_ G 0), .int v1, .int v2, .int v3] S (PI_ o.1 o.2) := MR_of cb_X11_draw (Nat.le_of_ble_eq_true rfl) [(0, .ref (ad_ G 0)), (1, .int v1), (2, .int v2), (3, .int v3)] rfl (tX11_draw  h ⟨rfl, rfl⟩)
set_option maxRecDepth 100000 in
set_option maxHeartbeats 4000000 in
theorem tX11_lotsOff {G : Gx} {post : Option Value → St → Prop} {S : St} {o : Int32}  (h : fX11_lotsOff S = some o) (hp : post (some (.int o)) S) : Rn G shX 3 yX11_lotsOff cX11_lotsOff 3 (some .int) 0 [(0, .ref (ad_ G 0))] [] S post := by
  unfold fX11_lotsOff at h
  refine r_iconst (v := 0) dX11_lotsOff_0 rfl ?_
  refine r_istore_n (i := 1) [(0, .ref (ad_ G 0)), (1, .int 0)] [1, 0] dX11_lotsOff_1 rfl (by decide) rfl ?_
  refine r_iconst (v := 0) dX11_lotsOff_2 rfl ?_
  refine r_istore_n (i := 2) [(0, .ref (ad_ G 0)), (1, .int 0), (2, .int 0)] [1, 2, 0] dX11_lotsOff_3 rfl (by decide) rfl ?_
  have key : ∀ ex, lp (fun w21 : Int32 × Int32 => bX11_lotsOff_4 S w21.1 w21.2) 5000 (0, 0) = some ex → (fun u28 : Int32 => Rn G shX 3 yX11_lotsOff cX11_lotsOff 3 (some .int) 37 [(1, .int u28)] [] S post) ex → Rn G shX 3 yX11_lotsOff cX11_lotsOff 3 (some .int) 4 [(0, .ref (ad_ G 0)), (1, .int 0), (2, .int 0)] [] S post := by
    intro ex hl hx
    refine lp_rule (body := (fun w21 : Int32 × Int32 => bX11_lotsOff_4 S w21.1 w21.2)) (R := (fun w21 : Int32 × Int32 => Rn G shX 3 yX11_lotsOff cX11_lotsOff 3 (some .int) 4 [(0, .ref (ad_ G 0)), (1, .int w21.1), (2, .int w21.2)] [] S post)) (X := (fun u28 : Int32 => Rn G shX 3 yX11_lotsOff cX11_lotsOff 3 (some .int) 37 [(1, .int u28)] [] S post)) ?_ 5000 (0, 0) ex hl hx
    intro w21 oo h hB hX
    obtain ⟨v22, v23⟩ := w21
    replace h : bX11_lotsOff_4 S v22 v23 = some oo := h
    unfold bX11_lotsOff_4 at h
    show Rn G shX 3 yX11_lotsOff cX11_lotsOff 3 (some .int) 4 [(0, .ref (ad_ G 0)), (1, .int v22), (2, .int v23)] [] S post
    refine r_iload_n 2 dX11_lotsOff_4 rfl rfl ?_
    refine r_bipush (v := 6) dX11_lotsOff_5 rfl ?_
    refine r_icmp_ge 37 dX11_lotsOff_7 (by decide) (fun c27 => ?_) (fun c27 => ?_)
    · rw [if_pos c27] at h
      refine r_sub [(1, .int v22)] [1] rfl ?_
      obtain rfl := Option.some.inj h
      exact hX v22 rfl
    · rw [if_neg c27] at h
      refine r_aload_n 0 dX11_lotsOff_10 rfl rfl ?_
      refine r_getC (k := 0) (j := 8) (r := 49) sX_0 rfl fl_X11_66 dX11_lotsOff_11 ?_
      refine r_iload_n 2 dX11_lotsOff_14 rfl rfl ?_
      refine r_aload_n 0 dX11_lotsOff_15 rfl rfl ?_
      obtain ⟨k24, hk24, h⟩ := b1_some h
      have ik24 := okL_is hk24
      refine r_getP (k := 0) (j := 11) sX_0 rfl fl_X11_89 hk24 dX11_lotsOff_16 ?_
      refine r_getI (k := k24) (j := 5) ik24.1 rfl fl_X11_372 dX11_lotsOff_19 ?_
      obtain ⟨x25, hx25, h⟩ := b1_some h
      refine r_callVi (k := 49) (rest := []) (by omega) (mX5_isOff hx25) sX_49 rfl rfl cb_X5_isOff ml_X11_375 im_X5_isOff se_X5_isOff rfl rfl (Nat.le_of_ble_eq_true rfl) dX11_lotsOff_22 ?_
      refine r_if_eq 31 dX11_lotsOff_25 (by decide) (fun c26 => ?_) (fun c26 => ?_)
      · rw [if_pos c26] at h
        refine r_iinc (v := v23 + 1) [(0, .ref (ad_ G 0)), (1, .int v22), (2, .int (v23 + 1))] 2 [1, 2, 0] dX11_lotsOff_31 rfl rfl (by decide) rfl ?_
        refine r_goto 4 dX11_lotsOff_34 (by decide) ?_
        obtain rfl := Option.some.inj h
        exact hB (v22, v23 + 1) rfl
      · rw [if_neg c26] at h
        refine r_iinc (v := v22 + 1) [(0, .ref (ad_ G 0)), (1, .int (v22 + 1)), (2, .int v23)] 1 [1, 0, 2] dX11_lotsOff_28 rfl rfl (by decide) rfl ?_
        refine r_iinc (v := v23 + 1) [(0, .ref (ad_ G 0)), (1, .int (v22 + 1)), (2, .int (v23 + 1))] 2 [1, 2, 0] dX11_lotsOff_31 rfl rfl (by decide) rfl ?_
        refine r_goto 4 dX11_lotsOff_34 (by decide) ?_
        obtain rfl := Option.some.inj h
        exact hB (v22 + 1, v23 + 1) rfl
  obtain ⟨u28, hu28, h⟩ := b1_some h
  refine key u28 hu28 ?_
  show Rn G shX 3 yX11_lotsOff cX11_lotsOff 3 (some .int) 37 [(1, .int u28)] [] S post
  refine r_iload_n 0 dX11_lotsOff_37 rfl rfl ?_
  obtain rfl := Option.some.inj h
  exact r_ireturn rfl dX11_lotsOff_38 (hp)
theorem mX11_lotsOff {G : Gx} {S : St} {o : Int32}  (h : fX11_lotsOff S = some o) : MR_ G shX 3 yX11_lotsOff cX11_lotsOff 3 (some .int) [.ref (ad_ G 0)] S (PI_ o S) := MR_of cb_X11_lotsOff (Nat.le_of_ble_eq_true rfl) [(0, .ref (ad_ G 0))] rfl (tX11_lotsOff  h ⟨rfl, rfl⟩)
set_option maxRecDepth 100000 in
set_option maxHeartbeats 4000000 in
theorem tX11_soldOn {G : Gx} {post : Option Value → St → Prop} {S : St} {o : Int32}  (h : fX11_soldOn S = some o) (hp : post (some (.int o)) S) : Rn G shX 1 yX11_soldOn cX11_soldOn 4 (some .int) 0 [(0, .ref (ad_ G 0))] [] S post := by
  unfold fX11_soldOn at h
  refine r_iconst (v := 0) dX11_soldOn_0 rfl ?_
  refine r_istore_n (i := 1) [(0, .ref (ad_ G 0)), (1, .int 0)] [1, 0] dX11_soldOn_1 rfl (by decide) rfl ?_
  refine r_iconst (v := 0) dX11_soldOn_2 rfl ?_
  refine r_istore_n (i := 2) [(0, .ref (ad_ G 0)), (1, .int 0), (2, .int 0)] [1, 2, 0] dX11_soldOn_3 rfl (by decide) rfl ?_
  have key : ∀ ex, lp (fun w21 : Int32 × Int32 => bX11_soldOn_4 S w21.1 w21.2) 5000 (0, 0) = some ex → (fun u32 : Int32 => Rn G shX 1 yX11_soldOn cX11_soldOn 4 (some .int) 69 [(1, .int u32)] [] S post) ex → Rn G shX 1 yX11_soldOn cX11_soldOn 4 (some .int) 4 [(0, .ref (ad_ G 0)), (1, .int 0), (2, .int 0)] [] S post := by
    intro ex hl hx
    refine lp_rule (body := (fun w21 : Int32 × Int32 => bX11_soldOn_4 S w21.1 w21.2)) (R := (fun w21 : Int32 × Int32 => Rn G shX 1 yX11_soldOn cX11_soldOn 4 (some .int) 4 [(0, .ref (ad_ G 0)), (1, .int w21.1), (2, .int w21.2)] [] S post)) (X := (fun u32 : Int32 => Rn G shX 1 yX11_soldOn cX11_soldOn 4 (some .int) 69 [(1, .int u32)] [] S post)) ?_ 5000 (0, 0) ex hl hx
    intro w21 oo h hB hX
    obtain ⟨v22, v23⟩ := w21
    replace h : bX11_soldOn_4 S v22 v23 = some oo := h
    unfold bX11_soldOn_4 at h
    show Rn G shX 1 yX11_soldOn cX11_soldOn 4 (some .int) 4 [(0, .ref (ad_ G 0)), (1, .int v22), (2, .int v23)] [] S post
    refine r_iload_n 2 dX11_soldOn_4 rfl rfl ?_
    refine r_aload_n 0 dX11_soldOn_5 rfl rfl ?_
    refine r_getC (k := 0) (j := 8) (r := 49) sX_0 rfl fl_X11_66 dX11_soldOn_6 ?_
    refine r_getI (k := 49) (j := 6) sX_49 rfl fl_X11_292 dX11_soldOn_9 ?_
    refine r_icmp_ge 69 dX11_soldOn_12 (by decide) (fun c31 => ?_) (fun c31 => ?_)
    · rw [if_pos c31] at h
      refine r_sub [(1, .int v22)] [1] rfl ?_
      obtain rfl := Option.some.inj h
      exact hX v22 rfl
    · rw [if_neg c31] at h
      refine r_aload_n 0 dX11_soldOn_15 rfl rfl ?_
      obtain ⟨k24, hk24, h⟩ := b1_some h
      have ik24 := okL_is hk24
      refine r_getP (k := 0) (j := 11) sX_0 rfl fl_X11_89 hk24 dX11_soldOn_16 ?_
      refine r_aload_n 0 dX11_soldOn_19 rfl rfl ?_
      refine r_getC (k := 0) (j := 8) (r := 49) sX_0 rfl fl_X11_66 dX11_soldOn_20 ?_
      refine r_getC (k := 49) (j := 5) (r := 55) sX_49 rfl fl_X11_314 dX11_soldOn_23 ?_
      refine r_iload_n 2 dX11_soldOn_26 rfl rfl ?_
      obtain ⟨x25, hx25, h⟩ := b1_some h
      refine r_iaload sX_55 hx25 dX11_soldOn_27 ?_
      refine r_aload_n 0 dX11_soldOn_28 rfl rfl ?_
      refine r_getC (k := 0) (j := 8) (r := 49) sX_0 rfl fl_X11_66 dX11_soldOn_29 ?_
      refine r_getC (k := 49) (j := 1) (r := 51) sX_49 rfl fl_X11_302 dX11_soldOn_32 ?_
      refine r_iload_n 2 dX11_soldOn_35 rfl rfl ?_
      obtain ⟨x26, hx26, h⟩ := b1_some h
      refine r_iaload sX_51 hx26 dX11_soldOn_36 ?_
      obtain ⟨x27, hx27, h⟩ := b1_some h
      refine r_callVi (k := k24) (rest := []) (by omega) (mX3_seller ik24 hx27) ik24.1 rfl rfl cb_X3_seller ml_X11_317 im_X3_seller se_X3_seller rfl rfl (Nat.le_of_ble_eq_true rfl) dX11_soldOn_37 ?_
      refine r_istore_n (i := 3) [(0, .ref (ad_ G 0)), (1, .int v22), (2, .int v23), (3, .int x27)] [1, 2, 3, 0] dX11_soldOn_40 rfl (by decide) rfl ?_
      refine r_iload_n 3 dX11_soldOn_41 rfl rfl ?_
      refine r_bipush (v := (-4)) dX11_soldOn_42 rfl ?_
      refine r_icmp_eq 63 dX11_soldOn_44 (by decide) (fun c30 => ?_) (fun c30 => ?_)
      · rw [if_pos c30] at h
        refine r_iinc (v := v23 + 1) [(0, .ref (ad_ G 0)), (1, .int v22), (2, .int (v23 + 1)), (3, .int x27)] 2 [1, 2, 0, 3] dX11_soldOn_63 rfl rfl (by decide) rfl ?_
        refine r_goto 4 dX11_soldOn_66 (by decide) ?_
        refine r_sub [(0, .ref (ad_ G 0)), (1, .int v22), (2, .int (v23 + 1))] [0, 1, 2] rfl ?_
        obtain rfl := Option.some.inj h
        exact hB (v22, v23 + 1) rfl
      · rw [if_neg c30] at h
        refine r_iload_n 3 dX11_soldOn_47 rfl rfl ?_
        refine r_aload_n 0 dX11_soldOn_48 rfl rfl ?_
        refine r_getC (k := 0) (j := 8) (r := 49) sX_0 rfl fl_X11_66 dX11_soldOn_49 ?_
        refine r_getC (k := 49) (j := 5) (r := 55) sX_49 rfl fl_X11_314 dX11_soldOn_52 ?_
        refine r_iload_n 2 dX11_soldOn_55 rfl rfl ?_
        obtain ⟨x28, hx28, h⟩ := b1_some h
        refine r_iaload sX_55 hx28 dX11_soldOn_56 ?_
        refine r_icmp_eq 63 dX11_soldOn_57 (by decide) (fun c29 => ?_) (fun c29 => ?_)
        · rw [if_pos c29] at h
          refine r_iinc (v := v23 + 1) [(0, .ref (ad_ G 0)), (1, .int v22), (2, .int (v23 + 1)), (3, .int x27)] 2 [1, 2, 0, 3] dX11_soldOn_63 rfl rfl (by decide) rfl ?_
          refine r_goto 4 dX11_soldOn_66 (by decide) ?_
          refine r_sub [(0, .ref (ad_ G 0)), (1, .int v22), (2, .int (v23 + 1))] [0, 1, 2] rfl ?_
          obtain rfl := Option.some.inj h
          exact hB (v22, v23 + 1) rfl
        · rw [if_neg c29] at h
          refine r_iinc (v := v22 + 1) [(0, .ref (ad_ G 0)), (1, .int (v22 + 1)), (2, .int v23), (3, .int x27)] 1 [1, 0, 2, 3] dX11_soldOn_60 rfl rfl (by decide) rfl ?_
          refine r_iinc (v := v23 + 1) [(0, .ref (ad_ G 0)), (1, .int (v22 + 1)), (2, .int (v23 + 1)), (3, .int x27)] 2 [1, 2, 0, 3] dX11_soldOn_63 rfl rfl (by decide) rfl ?_
          refine r_goto 4 dX11_soldOn_66 (by decide) ?_
          refine r_sub [(0, .ref (ad_ G 0)), (1, .int (v22 + 1)), (2, .int (v23 + 1))] [0, 1, 2] rfl ?_
          obtain rfl := Option.some.inj h
          exact hB (v22 + 1, v23 + 1) rfl
  obtain ⟨u32, hu32, h⟩ := b1_some h
  refine key u32 hu32 ?_
  show Rn G shX 1 yX11_soldOn cX11_soldOn 4 (some .int) 69 [(1, .int u32)] [] S post
  refine r_iload_n 0 dX11_soldOn_69 rfl rfl ?_
  obtain rfl := Option.some.inj h
  exact r_ireturn rfl dX11_soldOn_70 (hp)
theorem mX11_soldOn {G : Gx} {S : St} {o : Int32}  (h : fX11_soldOn S = some o) : MR_ G shX 1 yX11_soldOn cX11_soldOn 4 (some .int) [.ref (ad_ G 0)] S (PI_ o S) := MR_of cb_X11_soldOn (Nat.le_of_ble_eq_true rfl) [(0, .ref (ad_ G 0))] rfl (tX11_soldOn  h ⟨rfl, rfl⟩)
set_option maxRecDepth 100000 in
set_option maxHeartbeats 4000000 in
theorem tX11_count {G : Gx} {post : Option Value → St → Prop} {S : St} {v1 : Int32} {o : Int32}  (h : fX11_count S v1 = some o) (hp : post (some (.int o)) S) : Rn G shX 4 yX11_count cX11_count 2 (some .int) 0 [(0, .ref (ad_ G 0)), (1, .int v1)] [] S post := by
  unfold fX11_count at h
  refine r_iload_n 1 dX11_count_0 rfl rfl ?_
  by_cases c21 : v1 = 0
  · rw [if_pos c21] at h
    refine r_tableIn 68 dX11_count_1 c21 (by decide) (by decide) rfl (by decide) ?_
    refine r_aload_n 0 dX11_count_68 rfl rfl ?_
    refine r_getC (k := 0) (j := 2) (r := 21) sX_0 rfl fl_X11_26 dX11_count_69 ?_
    refine r_getI (k := 21) (j := 5) sX_21 rfl fl_X11_142 dX11_count_72 ?_
    obtain rfl := Option.some.inj h
    exact r_ireturn rfl dX11_count_75 (hp)
  · rw [if_neg c21] at h
    by_cases c22 : v1 = 1
    · rw [if_pos c22] at h
      refine r_tableIn 76 dX11_count_1 c22 (by decide) (by decide) rfl (by decide) ?_
      refine r_aload_n 0 dX11_count_76 rfl rfl ?_
      refine r_getC (k := 0) (j := 8) (r := 49) sX_0 rfl fl_X11_66 dX11_count_77 ?_
      refine r_getI (k := 49) (j := 6) sX_49 rfl fl_X11_292 dX11_count_80 ?_
      obtain rfl := Option.some.inj h
      exact r_ireturn rfl dX11_count_83 (hp)
    · rw [if_neg c22] at h
      by_cases c24 : v1 = 2
      · rw [if_pos c24] at h
        refine r_tableIn 84 dX11_count_1 c24 (by decide) (by decide) rfl (by decide) ?_
        refine r_aload_n 0 dX11_count_84 rfl rfl ?_
        refine r_getC (k := 0) (j := 0) (r := 1) sX_0 rfl fl_X11_10 dX11_count_85 ?_
        refine r_getL (k := 1) (j := 2) sX_1 rfl fl_X11_122 dX11_count_88 ?_
        obtain ⟨x23, hx23, h⟩ := b1_some h
        refine r_callSi (rest := []) (by omega) (mJ13_bitCount_95d88 hx23) cb_J13_bitCount_95d88 ml_X11_404 sm_J13_bitCount_95d88 rfl rfl (Nat.le_of_ble_eq_true rfl) dX11_count_91 ?_
        obtain rfl := Option.some.inj h
        exact r_ireturn rfl dX11_count_94 (hp)
      · rw [if_neg c24] at h
        by_cases c25 : v1 = 3
        · rw [if_pos c25] at h
          refine r_tableIn 95 dX11_count_1 c25 (by decide) (by decide) rfl (by decide) ?_
          refine r_aload_n 0 dX11_count_95 rfl rfl ?_
          refine r_getC (k := 0) (j := 0) (r := 1) sX_0 rfl fl_X11_10 dX11_count_96 ?_
          refine r_getI (k := 1) (j := 0) sX_1 rfl fl_X11_216 dX11_count_99 ?_
          refine r_aload_n 0 dX11_count_102 rfl rfl ?_
          refine r_getC (k := 0) (j := 0) (r := 1) sX_0 rfl fl_X11_10 dX11_count_103 ?_
          refine r_getI (k := 1) (j := 1) sX_1 rfl fl_X11_218 dX11_count_106 ?_
          refine r_imul dX11_count_109 ?_
          obtain rfl := Option.some.inj h
          exact r_ireturn rfl dX11_count_110 (hp)
        · rw [if_neg c25] at h
          by_cases c27 : v1 = 4
          · rw [if_pos c27] at h
            refine r_tableIn 111 dX11_count_1 c27 (by decide) (by decide) rfl (by decide) ?_
            refine r_aload_n 0 dX11_count_111 rfl rfl ?_
            obtain ⟨x26, hx26, h⟩ := b1_some h
            refine r_callVi (k := 0) (rest := []) (by omega) (mX11_lotsOff hx26) sX_0 rfl rfl cb_X11_lotsOff ml_X11_411 im_X11_lotsOff se_X11_lotsOff rfl rfl (Nat.le_of_ble_eq_true rfl) dX11_count_112 ?_
            obtain rfl := Option.some.inj h
            exact r_ireturn rfl dX11_count_115 (hp)
          · rw [if_neg c27] at h
            by_cases c32 : v1 = 5
            · rw [if_pos c32] at h
              refine r_tableIn 116 dX11_count_1 c32 (by decide) (by decide) rfl (by decide) ?_
              refine r_aload_n 0 dX11_count_116 rfl rfl ?_
              refine r_getC (k := 0) (j := 13) (r := 74) sX_0 rfl fl_X11_98 dX11_count_117 ?_
              refine r_iconst (v := 0) dX11_count_120 rfl ?_
              obtain ⟨k28, hk28, h⟩ := b1_some h
              have ik28 := is_sheets hk28
              refine r_aaload (t := 1) sX_74 rfl hk28 dX11_count_121 ?_
              obtain ⟨x29, hx29, h⟩ := b1_some h
              refine r_callVi (k := k28) (rest := []) (by omega) (mX8_isNothing ik28 hx29) ik28.1 rfl rfl cb_X8_isNothing ml_X11_385 im_X8_isNothing se_X8_isNothing rfl rfl (Nat.le_of_ble_eq_true rfl) dX11_count_122 ?_
              refine r_if_eq 133 dX11_count_125 (by decide) (fun c31 => ?_) (fun c31 => ?_)
              · rw [if_pos c31] at h
                refine r_aload_n 0 dX11_count_133 rfl rfl ?_
                refine r_getC (k := 0) (j := 13) (r := 74) sX_0 rfl fl_X11_98 dX11_count_134 ?_
                refine r_iconst (v := 0) dX11_count_137 rfl ?_
                obtain ⟨k30, hk30, h⟩ := b1_some h
                have ik30 := is_sheets hk30
                refine r_aaload (t := 1) sX_74 rfl hk30 dX11_count_138 ?_
                refine r_getI (k := k30) (j := 1) ik30.1 rfl fl_X11_414 dX11_count_139 ?_
                obtain rfl := Option.some.inj h
                exact r_ireturn rfl dX11_count_142 (hp)
              · rw [if_neg c31] at h
                refine r_bipush (v := (-4)) dX11_count_128 rfl ?_
                refine r_goto 142 dX11_count_130 (by decide) ?_
                obtain rfl := Option.some.inj h
                exact r_ireturn rfl dX11_count_142 (hp)
            · rw [if_neg c32] at h
              by_cases c33 : v1 = 6
              · rw [if_pos c33] at h
                refine r_tableIn 143 dX11_count_1 c33 (by decide) (by decide) rfl (by decide) ?_
                refine r_aload_n 0 dX11_count_143 rfl rfl ?_
                refine r_getI (k := 0) (j := 5) sX_0 rfl fl_X11_43 dX11_count_144 ?_
                obtain rfl := Option.some.inj h
                exact r_ireturn rfl dX11_count_147 (hp)
              · rw [if_neg c33] at h
                by_cases c34 : v1 = 7
                · rw [if_pos c34] at h
                  refine r_tableIn 148 dX11_count_1 c34 (by decide) (by decide) rfl (by decide) ?_
                  refine r_aload_n 0 dX11_count_148 rfl rfl ?_
                  refine r_getC (k := 0) (j := 6) (r := 37) sX_0 rfl fl_X11_50 dX11_count_149 ?_
                  refine r_getI (k := 37) (j := 4) sX_37 rfl fl_X11_251 dX11_count_152 ?_
                  obtain rfl := Option.some.inj h
                  exact r_ireturn rfl dX11_count_155 (hp)
                · rw [if_neg c34] at h
                  by_cases c35 : v1 = 8
                  · rw [if_pos c35] at h
                    refine r_tableIn 156 dX11_count_1 c35 (by decide) (by decide) rfl (by decide) ?_
                    refine r_aload_n 0 dX11_count_156 rfl rfl ?_
                    refine r_getC (k := 0) (j := 7) (r := 42) sX_0 rfl fl_X11_59 dX11_count_157 ?_
                    refine r_getI (k := 42) (j := 5) sX_42 rfl fl_X11_263 dX11_count_160 ?_
                    obtain rfl := Option.some.inj h
                    exact r_ireturn rfl dX11_count_163 (hp)
                  · rw [if_neg c35] at h
                    by_cases c36 : v1 = 9
                    · rw [if_pos c36] at h
                      refine r_tableIn 164 dX11_count_1 c36 (by decide) (by decide) rfl (by decide) ?_
                      refine r_aload_n 0 dX11_count_164 rfl rfl ?_
                      refine r_getC (k := 0) (j := 1) (r := 3) sX_0 rfl fl_X11_19 dX11_count_165 ?_
                      refine r_getI (k := 3) (j := 2) sX_3 rfl fl_X11_111 dX11_count_168 ?_
                      obtain rfl := Option.some.inj h
                      exact r_ireturn rfl dX11_count_171 (hp)
                    · rw [if_neg c36] at h
                      by_cases c38 : v1 = 10
                      · rw [if_pos c38] at h
                        refine r_tableIn 172 dX11_count_1 c38 (by decide) (by decide) rfl (by decide) ?_
                        refine r_aload_n 0 dX11_count_172 rfl rfl ?_
                        obtain ⟨k37, hk37, h⟩ := b1_some h
                        have ik37 := okL_is hk37
                        refine r_getP (k := 0) (j := 11) sX_0 rfl fl_X11_89 hk37 dX11_count_173 ?_
                        refine r_getI (k := k37) (j := 6) ik37.1 rfl fl_X11_339 dX11_count_176 ?_
                        obtain rfl := Option.some.inj h
                        exact r_ireturn rfl dX11_count_179 (hp)
                      · rw [if_neg c38] at h
                        by_cases c40 : v1 = 11
                        · rw [if_pos c40] at h
                          refine r_tableIn 180 dX11_count_1 c40 (by decide) (by decide) rfl (by decide) ?_
                          refine r_aload_n 0 dX11_count_180 rfl rfl ?_
                          obtain ⟨k39, hk39, h⟩ := b1_some h
                          have ik39 := okL_is hk39
                          refine r_getP (k := 0) (j := 11) sX_0 rfl fl_X11_89 hk39 dX11_count_181 ?_
                          refine r_getI (k := k39) (j := 5) ik39.1 rfl fl_X11_372 dX11_count_184 ?_
                          obtain rfl := Option.some.inj h
                          exact r_ireturn rfl dX11_count_187 (hp)
                        · rw [if_neg c40] at h
                          by_cases c42 : v1 = 12
                          · rw [if_pos c42] at h
                            refine r_tableIn 188 dX11_count_1 c42 (by decide) (by decide) rfl (by decide) ?_
                            refine r_aload_n 0 dX11_count_188 rfl rfl ?_
                            obtain ⟨x41, hx41, h⟩ := b1_some h
                            refine r_callVi (k := 0) (rest := []) (by omega) (mX11_soldOn hx41) sX_0 rfl rfl cb_X11_soldOn ml_X11_415 im_X11_soldOn se_X11_soldOn rfl rfl (Nat.le_of_ble_eq_true rfl) dX11_count_189 ?_
                            obtain rfl := Option.some.inj h
                            exact r_ireturn rfl dX11_count_192 (hp)
                          · rw [if_neg c42] at h
                            have nc21 : (v1 : Int32).toInt ≠ 0 := ne_toInt c21
                            have nc22 : (v1 : Int32).toInt ≠ 1 := ne_toInt c22
                            have nc24 : (v1 : Int32).toInt ≠ 2 := ne_toInt c24
                            have nc25 : (v1 : Int32).toInt ≠ 3 := ne_toInt c25
                            have nc27 : (v1 : Int32).toInt ≠ 4 := ne_toInt c27
                            have nc32 : (v1 : Int32).toInt ≠ 5 := ne_toInt c32
                            have nc33 : (v1 : Int32).toInt ≠ 6 := ne_toInt c33
                            have nc34 : (v1 : Int32).toInt ≠ 7 := ne_toInt c34
                            have nc35 : (v1 : Int32).toInt ≠ 8 := ne_toInt c35
                            have nc36 : (v1 : Int32).toInt ≠ 9 := ne_toInt c36
                            have nc38 : (v1 : Int32).toInt ≠ 10 := ne_toInt c38
                            have nc40 : (v1 : Int32).toInt ≠ 11 := ne_toInt c40
                            have nc42 : (v1 : Int32).toInt ≠ 12 := ne_toInt c42
                            refine r_tableOut 193 dX11_count_1 (by omega) (by decide) ?_
                            refine r_iconst (v := (-1)) dX11_count_193 rfl ?_
                            obtain rfl := Option.some.inj h
                            exact r_ireturn rfl dX11_count_194 (hp)
theorem mX11_count {G : Gx} {S : St} {v1 : Int32} {o : Int32}  (h : fX11_count S v1 = some o) : MR_ G shX 4 yX11_count cX11_count 2 (some .int) [.ref (ad_ G 0), .int v1] S (PI_ o S) := MR_of cb_X11_count (Nat.le_of_ble_eq_true rfl) [(0, .ref (ad_ G 0)), (1, .int v1)] rfl (tX11_count  h ⟨rfl, rfl⟩)
