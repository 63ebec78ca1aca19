set_option maxRecDepth 100000 in
set_option maxHeartbeats 4000000 in
theorem tX11_feed {G : Gx} {post : Option Value → St → Prop} {S : St} {v1 : Int64} {o : (Int32 × St)}  (h : fX11_feed S v1 = some o) (hp : post (some (.int o.1)) o.2) : Rn G shX 1 yX11_feed cX11_feed 3 (some .int) 0 [(0, .ref (ad_ G 0)), (1, .long v1)] [] S post := by
  unfold fX11_feed at h
  refine r_aload_n 0 dX11_feed_0 rfl rfl ?_
  refine r_getC (k := 0) (j := 9) (r := 56) sX_0 rfl fl_X11_73 dX11_feed_1 ?_
  refine r_getI (k := 56) (j := 1) sX_56 rfl fl_X11_323 dX11_feed_4 ?_
  refine r_bipush (v := 8) dX11_feed_7 rfl ?_
  refine r_iadd dX11_feed_9 ?_
  refine r_sipush (v := 200) dX11_feed_10 rfl ?_
  refine r_icmp_le 19 dX11_feed_13 (by decide) (fun c22 => ?_) (fun c22 => ?_)
  · rw [if_pos c22] at h
    refine r_aload_n 0 dX11_feed_19 rfl rfl ?_
    refine r_getC (k := 0) (j := 9) (r := 56) sX_0 rfl fl_X11_73 dX11_feed_20 ?_
    refine r_lload_n 1 dX11_feed_23 rfl rfl ?_
    obtain ⟨S21, hS21, h⟩ := b1_some h
    refine r_callVv (k := 56) (rest := []) (by omega) (mX10_append hS21) sX_56 rfl rfl cb_X10_append ml_X11_326 im_X10_append se_X10_append rfl rfl (Nat.le_of_ble_eq_true rfl) dX11_feed_24 ?_
    refine r_aload_n 0 dX11_feed_27 rfl rfl ?_
    refine r_getC (k := 0) (j := 9) (r := 56) sX_0 rfl fl_X11_73 dX11_feed_28 ?_
    refine r_getI (k := 56) (j := 1) sX_56 rfl fl_X11_323 dX11_feed_31 ?_
    obtain rfl := Option.some.inj h
    exact r_ireturn rfl dX11_feed_34 (hp)
  · rw [if_neg c22] at h
    refine r_bipush (v := (-3)) dX11_feed_16 rfl ?_
    obtain rfl := Option.some.inj h
    exact r_ireturn rfl dX11_feed_18 (hp)
theorem mX11_feed {G : Gx} {S : St} {v1 : Int64} {o : (Int32 × St)}  (h : fX11_feed S v1 = some o) : MR_ G shX 1 yX11_feed cX11_feed 3 (some .int) [.ref (ad_ G 0), .long v1] S (PI_ o.1 o.2) := MR_of cb_X11_feed (Nat.le_of_ble_eq_true rfl) [(0, .ref (ad_ G 0)), (1, .long v1)] rfl (tX11_feed  h ⟨rfl, rfl⟩)
set_option maxRecDepth 100000 in
set_option maxHeartbeats 4000000 in
theorem tX11_end {G : Gx} {post : Option Value → St → Prop} {S : St} {v1 : Int32} {o : (Int32 × St)}  (h : fX11_end S v1 = some o) (hp : post (some (.int o.1)) o.2) : Rn G shX 1 yX11_end cX11_end 3 (some .int) 0 [(0, .ref (ad_ G 0)), (1, .int v1)] [] S post := by
  unfold fX11_end at h
  refine r_iload_n 1 dX11_end_0 rfl rfl ?_
  refine r_iconst (v := 0) dX11_end_1 rfl ?_
  refine r_aload_n 0 dX11_end_2 rfl rfl ?_
  refine r_getC (k := 0) (j := 9) (r := 56) sX_0 rfl fl_X11_73 dX11_end_3 ?_
  refine r_getI (k := 56) (j := 1) sX_56 rfl fl_X11_323 dX11_end_6 ?_
  obtain ⟨x21, hx21, h⟩ := b1_some h
  refine r_callSi (rest := []) (by omega) (mX11_within hx21) cb_X11_within ml_X11_103 sm_X11_within rfl rfl (Nat.le_of_ble_eq_true rfl) dX11_end_9 ?_
  refine r_if_ne 17 dX11_end_12 (by decide) (fun c23 => ?_) (fun c23 => ?_)
  · rw [if_neg c23] at h
    refine r_aload_n 0 dX11_end_17 rfl rfl ?_
    refine r_getC (k := 0) (j := 9) (r := 56) sX_0 rfl fl_X11_73 dX11_end_18 ?_
    refine r_getI (k := 56) (j := 1) sX_56 rfl fl_X11_323 dX11_end_21 ?_
    refine r_istore_n (i := 2) [(0, .ref (ad_ G 0)), (1, .int v1), (2, .int (gI_ S 56 1))] [1, 2, 0] dX11_end_24 rfl (by decide) rfl ?_
    refine r_aload_n 0 dX11_end_25 rfl rfl ?_
    refine r_getC (k := 0) (j := 9) (r := 56) sX_0 rfl fl_X11_73 dX11_end_26 ?_
    refine r_iload_n 1 dX11_end_29 rfl rfl ?_
    obtain ⟨S22, hS22, h⟩ := b1_some h
    refine r_setI (k := 56) (j := 1) sX_56 rfl pf_X11_323 hS22 dX11_end_30 ?_
    refine r_iload_n 2 dX11_end_33 rfl rfl ?_
    obtain rfl := Option.some.inj h
    exact r_ireturn rfl dX11_end_34 (hp)
  · rw [if_pos c23] at h
    refine r_iconst (v := (-1)) dX11_end_15 rfl ?_
    obtain rfl := Option.some.inj h
    exact r_ireturn rfl dX11_end_16 (hp)
theorem mX11_end {G : Gx} {S : St} {v1 : Int32} {o : (Int32 × St)}  (h : fX11_end S v1 = some o) : MR_ G shX 1 yX11_end cX11_end 3 (some .int) [.ref (ad_ G 0), .int v1] S (PI_ o.1 o.2) := MR_of cb_X11_end (Nat.le_of_ble_eq_true rfl) [(0, .ref (ad_ G 0)), (1, .int v1)] rfl (tX11_end  h ⟨rfl, rfl⟩)
set_option maxRecDepth 100000 in
set_option maxHeartbeats 4000000 in
theorem tX3_forget {G : Gx} {post : Option Value → St → Prop} {k0 : Nat} {S : St} {o : St} (hk0 : IsLw k0) (h : fX3_forget k0 S = some o) (hp : post none o) : Rn G shX 0 yX3_forget cX3_forget 2 none 0 [(0, .ref (ad_ G k0))] [] S post := by
  unfold fX3_forget at h
  refine r_iconst (v := 0) dX3_forget_0 rfl ?_
  refine r_istore_n (i := 1) [(0, .ref (ad_ G k0)), (1, .int 0)] [1, 0] dX3_forget_1 rfl (by decide) rfl ?_
  have key : ∀ ex, lp (fun w21 : Int32 × St => bX3_forget_2 k0 w21.1 w21.2) 5000 (0, S) = some ex → (fun u28 : St => Rn G shX 0 yX3_forget cX3_forget 2 none 39 [(0, .ref (ad_ G k0))] [] u28 post) ex → Rn G shX 0 yX3_forget cX3_forget 2 none 2 [(0, .ref (ad_ G k0)), (1, .int 0)] [] S post := by
    intro ex hl hx
    refine lp_rule (body := (fun w21 : Int32 × St => bX3_forget_2 k0 w21.1 w21.2)) (R := (fun w21 : Int32 × St => Rn G shX 0 yX3_forget cX3_forget 2 none 2 [(0, .ref (ad_ G k0)), (1, .int w21.1)] [] w21.2 post)) (X := (fun u28 : St => Rn G shX 0 yX3_forget cX3_forget 2 none 39 [(0, .ref (ad_ G k0))] [] u28 post)) ?_ 5000 (0, S) ex hl hx
    intro w21 oo h hB hX
    obtain ⟨v22, S23⟩ := w21
    replace h : bX3_forget_2 k0 v22 S23 = some oo := h
    unfold bX3_forget_2 at h
    show Rn G shX 0 yX3_forget cX3_forget 2 none 2 [(0, .ref (ad_ G k0)), (1, .int v22)] [] S23 post
    refine r_iload_n 1 dX3_forget_2 rfl rfl ?_
    refine r_bipush (v := 8) dX3_forget_3 rfl ?_
    refine r_icmp_ge 39 dX3_forget_5 (by decide) (fun c27 => ?_) (fun c27 => ?_)
    · rw [if_pos c27] at h
      refine r_sub [(0, .ref (ad_ G k0))] [0] rfl ?_
      obtain rfl := Option.some.inj h
      exact hX S23 rfl
    · rw [if_neg c27] at h
      refine r_aload_n 0 dX3_forget_8 rfl rfl ?_
      refine r_getC (k := k0) (j := 0) (r := k0 + 1) hk0.1 rfl fl_X3_9 dX3_forget_9 ?_
      refine r_iload_n 1 dX3_forget_12 rfl rfl ?_
      refine r_sipush (v := 1800) dX3_forget_13 rfl ?_
      obtain ⟨S24, hS24, h⟩ := b1_some h
      refine r_iastore hk0.2.1 hS24 dX3_forget_16 ?_
      refine r_aload_n 0 dX3_forget_17 rfl rfl ?_
      refine r_getC (k := k0) (j := 1) (r := k0 + 2) hk0.1 rfl fl_X3_15 dX3_forget_18 ?_
      refine r_iload_n 1 dX3_forget_21 rfl rfl ?_
      refine r_sipush (v := 2000) dX3_forget_22 rfl ?_
      obtain ⟨S25, hS25, h⟩ := b1_some h
      refine r_iastore hk0.2.2.1 hS25 dX3_forget_25 ?_
      refine r_aload_n 0 dX3_forget_26 rfl rfl ?_
      refine r_getC (k := k0) (j := 2) (r := k0 + 3) hk0.1 rfl fl_X3_18 dX3_forget_27 ?_
      refine r_iload_n 1 dX3_forget_30 rfl rfl ?_
      refine r_iconst (v := 0) dX3_forget_31 rfl ?_
      obtain ⟨S26, hS26, h⟩ := b1_some h
      refine r_iastore hk0.2.2.2.1 hS26 dX3_forget_32 ?_
      refine r_iinc (v := v22 + 1) [(0, .ref (ad_ G k0)), (1, .int (v22 + 1))] 1 [1, 0] dX3_forget_33 rfl rfl (by decide) rfl ?_
      refine r_goto 2 dX3_forget_36 (by decide) ?_
      obtain rfl := Option.some.inj h
      exact hB (v22 + 1, S26) rfl
  obtain ⟨u28, hu28, h⟩ := b1_some h
  refine key u28 hu28 ?_
  show Rn G shX 0 yX3_forget cX3_forget 2 none 39 [(0, .ref (ad_ G k0))] [] u28 post
  refine r_iconst (v := 0) dX3_forget_39 rfl ?_
  refine r_istore_n (i := 1) [(0, .ref (ad_ G k0)), (1, .int 0)] [1, 0] dX3_forget_40 rfl (by decide) rfl ?_
  have key : ∀ ex, lp (fun w29 : Int32 × St => bX3_forget_41 k0 w29.1 w29.2) 5000 (0, u28) = some ex → (fun u35 : St => Rn G shX 0 yX3_forget cX3_forget 2 none 68 [(0, .ref (ad_ G k0))] [] u35 post) ex → Rn G shX 0 yX3_forget cX3_forget 2 none 41 [(0, .ref (ad_ G k0)), (1, .int 0)] [] u28 post := by
    intro ex hl hx
    refine lp_rule (body := (fun w29 : Int32 × St => bX3_forget_41 k0 w29.1 w29.2)) (R := (fun w29 : Int32 × St => Rn G shX 0 yX3_forget cX3_forget 2 none 41 [(0, .ref (ad_ G k0)), (1, .int w29.1)] [] w29.2 post)) (X := (fun u35 : St => Rn G shX 0 yX3_forget cX3_forget 2 none 68 [(0, .ref (ad_ G k0))] [] u35 post)) ?_ 5000 (0, u28) ex hl hx
    intro w29 oo h hB hX
    obtain ⟨v30, S31⟩ := w29
    replace h : bX3_forget_41 k0 v30 S31 = some oo := h
    unfold bX3_forget_41 at h
    show Rn G shX 0 yX3_forget cX3_forget 2 none 41 [(0, .ref (ad_ G k0)), (1, .int v30)] [] S31 post
    refine r_iload_n 1 dX3_forget_41 rfl rfl ?_
    refine r_bipush (v := 8) dX3_forget_42 rfl ?_
    refine r_icmp_ge 68 dX3_forget_44 (by decide) (fun c34 => ?_) (fun c34 => ?_)
    · rw [if_pos c34] at h
      refine r_sub [(0, .ref (ad_ G k0))] [0] rfl ?_
      obtain rfl := Option.some.inj h
      exact hX S31 rfl
    · rw [if_neg c34] at h
      refine r_aload_n 0 dX3_forget_47 rfl rfl ?_
      refine r_getC (k := k0) (j := 3) (r := k0 + 4) hk0.1 rfl fl_X3_21 dX3_forget_48 ?_
      refine r_iload_n 1 dX3_forget_51 rfl rfl ?_
      refine r_iconst (v := 0) dX3_forget_52 rfl ?_
      obtain ⟨S32, hS32, h⟩ := b1_some h
      refine r_iastore hk0.2.2.2.2.1 hS32 dX3_forget_53 ?_
      refine r_aload_n 0 dX3_forget_54 rfl rfl ?_
      refine r_getC (k := k0) (j := 4) (r := k0 + 5) hk0.1 rfl fl_X3_24 dX3_forget_55 ?_
      refine r_iload_n 1 dX3_forget_58 rfl rfl ?_
      refine r_bipush (v := (-4)) dX3_forget_59 rfl ?_
      obtain ⟨S33, hS33, h⟩ := b1_some h
      refine r_iastore hk0.2.2.2.2.2 hS33 dX3_forget_61 ?_
      refine r_iinc (v := v30 + 1) [(0, .ref (ad_ G k0)), (1, .int (v30 + 1))] 1 [1, 0] dX3_forget_62 rfl rfl (by decide) rfl ?_
      refine r_goto 41 dX3_forget_65 (by decide) ?_
      obtain rfl := Option.some.inj h
      exact hB (v30 + 1, S33) rfl
  obtain ⟨u35, hu35, h⟩ := b1_some h
  refine key u35 hu35 ?_
  show Rn G shX 0 yX3_forget cX3_forget 2 none 68 [(0, .ref (ad_ G k0))] [] u35 post
  refine r_aload_n 0 dX3_forget_68 rfl rfl ?_
  refine r_iconst (v := 5) dX3_forget_69 rfl ?_
  obtain ⟨S36, hS36, h⟩ := b1_some h
  refine r_setI (k := k0) (j := 5) hk0.1 rfl pf_X3_27 hS36 dX3_forget_70 ?_
  refine r_aload_n 0 dX3_forget_73 rfl rfl ?_
  refine r_iconst (v := 0) dX3_forget_74 rfl ?_
  obtain ⟨S37, hS37, h⟩ := b1_some h
  refine r_setI (k := k0) (j := 6) hk0.1 rfl pf_X3_31 hS37 dX3_forget_75 ?_
  refine r_aload_n 0 dX3_forget_78 rfl rfl ?_
  refine r_iconst (v := 0) dX3_forget_79 rfl ?_
  obtain ⟨S38, hS38, h⟩ := b1_some h
  refine r_setI (k := k0) (j := 7) hk0.1 rfl pf_X3_34 hS38 dX3_forget_80 ?_
  refine r_aload_n 0 dX3_forget_83 rfl rfl ?_
  refine r_iconst (v := 0) dX3_forget_84 rfl ?_
  obtain ⟨S39, hS39, h⟩ := b1_some h
  refine r_setI (k := k0) (j := 8) hk0.1 rfl pf_X3_37 hS39 dX3_forget_85 ?_
  refine r_aload_n 0 dX3_forget_88 rfl rfl ?_
  refine r_iconst (v := 0) dX3_forget_89 rfl ?_
  obtain ⟨S40, hS40, h⟩ := b1_some h
  refine r_setZ (k := k0) (j := 9) hk0.1 rfl pf_X3_40 ⟨rfl, rfl⟩ hS40 dX3_forget_90 ?_
  obtain rfl := Option.some.inj h
  exact r_return rfl dX3_forget_93 (hp)
theorem mX3_forget {G : Gx} {k0 : Nat} {S : St} {o : St} (hk0 : IsLw k0) (h : fX3_forget k0 S = some o) : MR_ G shX 0 yX3_forget cX3_forget 2 none [.ref (ad_ G k0)] S (PV_ o) := MR_of cb_X3_forget (Nat.le_of_ble_eq_true rfl) [(0, .ref (ad_ G k0))] rfl (tX3_forget hk0 h ⟨rfl, rfl⟩)
set_option maxRecDepth 100000 in
set_option maxHeartbeats 4000000 in
theorem tX10_endOfToken {G : Gx} {post : Option Value → St → Prop} {S : St} {v1 : Int32} {o : Int32}  (h : fX10_endOfToken S v1 = some o) (hp : post (some (.int o)) S) : Rn G shX 1 yX10_endOfToken cX10_endOfToken 3 (some .int) 0 [(0, .ref (ad_ G 56)), (1, .int v1)] [] S post := by
  unfold fX10_endOfToken at h
  refine r_iload_n 1 dX10_endOfToken_0 rfl rfl ?_
  refine r_iconst (v := 1) dX10_endOfToken_1 rfl ?_
  refine r_iadd dX10_endOfToken_2 ?_
  refine r_istore_n (i := 2) [(0, .ref (ad_ G 56)), (1, .int v1), (2, .int (v1 + 1))] [1, 2, 0] dX10_endOfToken_3 rfl (by decide) rfl ?_
  refine r_aload_n 0 dX10_endOfToken_4 rfl rfl ?_
  refine r_getC (k := 56) (j := 0) (r := 57) sX_56 rfl fl_X10_9 dX10_endOfToken_5 ?_
  refine r_iload_n 1 dX10_endOfToken_8 rfl rfl ?_
  obtain ⟨x21, hx21, h⟩ := b1_some h
  refine r_iaload sX_57 hx21 dX10_endOfToken_9 ?_
  refine r_bipush (v := 48) dX10_endOfToken_10 rfl ?_
  refine r_bipush (v := 57) dX10_endOfToken_12 rfl ?_
  obtain ⟨x22, hx22, h⟩ := b1_some h
  refine r_callSNi (rest := []) (by omega) (mX11_within hx22) cb_X11_within (by decide) sm_X11_within rfl rfl (Nat.le_of_ble_eq_true rfl) dX10_endOfToken_14 ?_
  refine r_if_eq 50 dX10_endOfToken_17 (by decide) (fun c50 => ?_) (fun c50 => ?_)
  · rw [if_pos c50] at h
    refine r_aload_n 0 dX10_endOfToken_50 rfl rfl ?_
    refine r_getC (k := 56) (j := 0) (r := 57) sX_56 rfl fl_X10_9 dX10_endOfToken_51 ?_
    refine r_iload_n 1 dX10_endOfToken_54 rfl rfl ?_
    obtain ⟨x23, hx23, h⟩ := b1_some h
    refine r_iaload sX_57 hx23 dX10_endOfToken_55 ?_
    refine r_bipush (v := 97) dX10_endOfToken_56 rfl ?_
    refine r_bipush (v := 122) dX10_endOfToken_58 rfl ?_
    obtain ⟨x24, hx24, h⟩ := b1_some h
    refine r_callSNi (rest := []) (by omega) (mX11_within hx24) cb_X11_within (by decide) sm_X11_within rfl rfl (Nat.le_of_ble_eq_true rfl) dX10_endOfToken_60 ?_
    refine r_if_eq 96 dX10_endOfToken_63 (by decide) (fun c32 => ?_) (fun c32 => ?_)
    · rw [if_pos c32] at h
      refine r_iload_n 2 dX10_endOfToken_96 rfl rfl ?_
      obtain rfl := Option.some.inj h
      exact r_ireturn rfl dX10_endOfToken_97 (hp)
    · rw [if_neg c32] at h
      refine r_sub [(0, .ref (ad_ G 56)), (2, .int (v1 + 1))] [0, 2] rfl ?_
      have key : ∀ ex, lp (fun w25 : Int32 => bX10_endOfToken_66 S w25) 5000 (v1 + 1) = some ex → (fun u31 : Int32 => Rn G shX 1 yX10_endOfToken cX10_endOfToken 3 (some .int) 96 [(2, .int u31)] [] S post) ex → Rn G shX 1 yX10_endOfToken cX10_endOfToken 3 (some .int) 66 [(0, .ref (ad_ G 56)), (2, .int (v1 + 1))] [] S post := by
        intro ex hl hx
        refine lp_rule (body := (fun w25 : Int32 => bX10_endOfToken_66 S w25)) (R := (fun w25 : Int32 => Rn G shX 1 yX10_endOfToken cX10_endOfToken 3 (some .int) 66 [(0, .ref (ad_ G 56)), (2, .int w25)] [] S post)) (X := (fun u31 : Int32 => Rn G shX 1 yX10_endOfToken cX10_endOfToken 3 (some .int) 96 [(2, .int u31)] [] S post)) ?_ 5000 (v1 + 1) ex hl hx
        intro w25 oo h hB hX
        obtain ⟨v26, rfl⟩ : ∃ z, z = w25 := ⟨_, rfl⟩
        replace h : bX10_endOfToken_66 S v26 = some oo := h
        unfold bX10_endOfToken_66 at h
        show Rn G shX 1 yX10_endOfToken cX10_endOfToken 3 (some .int) 66 [(0, .ref (ad_ G 56)), (2, .int v26)] [] S post
        refine r_iload_n 1 dX10_endOfToken_66 rfl rfl ?_
        refine r_aload_n 0 dX10_endOfToken_67 rfl rfl ?_
        refine r_getI (k := 56) (j := 1) sX_56 rfl fl_X10_13 dX10_endOfToken_68 ?_
        refine r_icmp_ge 96 dX10_endOfToken_71 (by decide) (fun c30 => ?_) (fun c30 => ?_)
        · rw [if_pos c30] at h
          refine r_sub [(2, .int v26)] [1] rfl ?_
          obtain rfl := Option.some.inj h
          exact hX v26 rfl
        · rw [if_neg c30] at h
          refine r_aload_n 0 dX10_endOfToken_74 rfl rfl ?_
          refine r_getC (k := 56) (j := 0) (r := 57) sX_56 rfl fl_X10_9 dX10_endOfToken_75 ?_
          refine r_iload_n 1 dX10_endOfToken_78 rfl rfl ?_
          obtain ⟨x27, hx27, h⟩ := b1_some h
          refine r_iaload sX_57 hx27 dX10_endOfToken_79 ?_
          refine r_bipush (v := 97) dX10_endOfToken_80 rfl ?_
          refine r_bipush (v := 122) dX10_endOfToken_82 rfl ?_
          obtain ⟨x28, hx28, h⟩ := b1_some h
          refine r_callSNi (rest := []) (by omega) (mX11_within hx28) cb_X11_within (by decide) sm_X11_within rfl rfl (Nat.le_of_ble_eq_true rfl) dX10_endOfToken_84 ?_
          refine r_if_eq 96 dX10_endOfToken_87 (by decide) (fun c29 => ?_) (fun c29 => ?_)
          · rw [if_pos c29] at h
            refine r_sub [(2, .int v26)] [1] rfl ?_
            obtain rfl := Option.some.inj h
            exact hX v26 rfl
          · rw [if_neg c29] at h
            refine r_iinc (v := v26 + 1) [(0, .ref (ad_ G 56)), (2, .int (v26 + 1))] 1 [1, 0] dX10_endOfToken_90 rfl rfl (by decide) rfl ?_
            refine r_goto 66 dX10_endOfToken_93 (by decide) ?_
            obtain rfl := Option.some.inj h
            exact hB (v26 + 1) rfl
      obtain ⟨u31, hu31, h⟩ := b1_some h
      refine key u31 hu31 ?_
      show Rn G shX 1 yX10_endOfToken cX10_endOfToken 3 (some .int) 96 [(2, .int u31)] [] S post
      refine r_iload_n 0 dX10_endOfToken_96 rfl rfl ?_
      obtain rfl := Option.some.inj h
      exact r_ireturn rfl dX10_endOfToken_97 (hp)
  · rw [if_neg c50] at h
    have key : ∀ ex, lp (fun w33 : Int32 => bX10_endOfToken_20 S w33) 5000 (v1 + 1) = some ex → (fun u39 : Int32 => Rn G shX 1 yX10_endOfToken cX10_endOfToken 3 (some .int) 50 [(0, .ref (ad_ G 56)), (1, .int v1), (2, .int u39)] [] S post) ex → Rn G shX 1 yX10_endOfToken cX10_endOfToken 3 (some .int) 20 [(0, .ref (ad_ G 56)), (1, .int v1), (2, .int (v1 + 1))] [] S post := by
      intro ex hl hx
      refine lp_rule (body := (fun w33 : Int32 => bX10_endOfToken_20 S w33)) (R := (fun w33 : Int32 => Rn G shX 1 yX10_endOfToken cX10_endOfToken 3 (some .int) 20 [(0, .ref (ad_ G 56)), (1, .int v1), (2, .int w33)] [] S post)) (X := (fun u39 : Int32 => Rn G shX 1 yX10_endOfToken cX10_endOfToken 3 (some .int) 50 [(0, .ref (ad_ G 56)), (1, .int v1), (2, .int u39)] [] S post)) ?_ 5000 (v1 + 1) ex hl hx
      intro w33 oo h hB hX
      obtain ⟨v34, rfl⟩ : ∃ z, z = w33 := ⟨_, rfl⟩
      replace h : bX10_endOfToken_20 S v34 = some oo := h
      unfold bX10_endOfToken_20 at h
      show Rn G shX 1 yX10_endOfToken cX10_endOfToken 3 (some .int) 20 [(0, .ref (ad_ G 56)), (1, .int v1), (2, .int v34)] [] S post
      refine r_iload_n 2 dX10_endOfToken_20 rfl rfl ?_
      refine r_aload_n 0 dX10_endOfToken_21 rfl rfl ?_
      refine r_getI (k := 56) (j := 1) sX_56 rfl fl_X10_13 dX10_endOfToken_22 ?_
      refine r_icmp_ge 50 dX10_endOfToken_25 (by decide) (fun c38 => ?_) (fun c38 => ?_)
      · rw [if_pos c38] at h
        obtain rfl := Option.some.inj h
        exact hX v34 rfl
      · rw [if_neg c38] at h
        refine r_aload_n 0 dX10_endOfToken_28 rfl rfl ?_
        refine r_getC (k := 56) (j := 0) (r := 57) sX_56 rfl fl_X10_9 dX10_endOfToken_29 ?_
        refine r_iload_n 2 dX10_endOfToken_32 rfl rfl ?_
        obtain ⟨x35, hx35, h⟩ := b1_some h
        refine r_iaload sX_57 hx35 dX10_endOfToken_33 ?_
        refine r_bipush (v := 48) dX10_endOfToken_34 rfl ?_
        refine r_bipush (v := 57) dX10_endOfToken_36 rfl ?_
        obtain ⟨x36, hx36, h⟩ := b1_some h
        refine r_callSNi (rest := []) (by omega) (mX11_within hx36) cb_X11_within (by decide) sm_X11_within rfl rfl (Nat.le_of_ble_eq_true rfl) dX10_endOfToken_38 ?_
        refine r_if_eq 50 dX10_endOfToken_41 (by decide) (fun c37 => ?_) (fun c37 => ?_)
        · rw [if_pos c37] at h
          obtain rfl := Option.some.inj h
          exact hX v34 rfl
        · rw [if_neg c37] at h
          refine r_iinc (v := v34 + 1) [(0, .ref (ad_ G 56)), (1, .int v1), (2, .int (v34 + 1))] 2 [1, 2, 0] dX10_endOfToken_44 rfl rfl (by decide) rfl ?_
          refine r_goto 20 dX10_endOfToken_47 (by decide) ?_
          obtain rfl := Option.some.inj h
          exact hB (v34 + 1) rfl
    obtain ⟨u39, hu39, h⟩ := b1_some h
    refine key u39 hu39 ?_
    show Rn G shX 1 yX10_endOfToken cX10_endOfToken 3 (some .int) 50 [(0, .ref (ad_ G 56)), (1, .int v1), (2, .int u39)] [] S post
    refine r_aload_n 0 dX10_endOfToken_50 rfl rfl ?_
    refine r_getC (k := 56) (j := 0) (r := 57) sX_56 rfl fl_X10_9 dX10_endOfToken_51 ?_
    refine r_iload_n 1 dX10_endOfToken_54 rfl rfl ?_
    obtain ⟨x40, hx40, h⟩ := b1_some h
    refine r_iaload sX_57 hx40 dX10_endOfToken_55 ?_
    refine r_bipush (v := 97) dX10_endOfToken_56 rfl ?_
    refine r_bipush (v := 122) dX10_endOfToken_58 rfl ?_
    obtain ⟨x41, hx41, h⟩ := b1_some h
    refine r_callSNi (rest := []) (by omega) (mX11_within hx41) cb_X11_within (by decide) sm_X11_within rfl rfl (Nat.le_of_ble_eq_true rfl) dX10_endOfToken_60 ?_
    refine r_if_eq 96 dX10_endOfToken_63 (by decide) (fun c49 => ?_) (fun c49 => ?_)
    · rw [if_pos c49] at h
      refine r_iload_n 2 dX10_endOfToken_96 rfl rfl ?_
      obtain rfl := Option.some.inj h
      exact r_ireturn rfl dX10_endOfToken_97 (hp)
    · rw [if_neg c49] at h
      refine r_sub [(0, .ref (ad_ G 56)), (2, .int u39)] [0, 2] rfl ?_
      have key : ∀ ex, lp (fun w42 : Int32 => bX10_endOfToken_66b S w42) 5000 u39 = some ex → (fun u48 : Int32 => Rn G shX 1 yX10_endOfToken cX10_endOfToken 3 (some .int) 96 [(2, .int u48)] [] S post) ex → Rn G shX 1 yX10_endOfToken cX10_endOfToken 3 (some .int) 66 [(0, .ref (ad_ G 56)), (2, .int u39)] [] S post := by
        intro ex hl hx
        refine lp_rule (body := (fun w42 : Int32 => bX10_endOfToken_66b S w42)) (R := (fun w42 : Int32 => Rn G shX 1 yX10_endOfToken cX10_endOfToken 3 (some .int) 66 [(0, .ref (ad_ G 56)), (2, .int w42)] [] S post)) (X := (fun u48 : Int32 => Rn G shX 1 yX10_endOfToken cX10_endOfToken 3 (some .int) 96 [(2, .int u48)] [] S post)) ?_ 5000 u39 ex hl hx
        intro w42 oo h hB hX
        obtain ⟨v43, rfl⟩ : ∃ z, z = w42 := ⟨_, rfl⟩
        replace h : bX10_endOfToken_66b S v43 = some oo := h
        unfold bX10_endOfToken_66b at h
        show Rn G shX 1 yX10_endOfToken cX10_endOfToken 3 (some .int) 66 [(0, .ref (ad_ G 56)), (2, .int v43)] [] S post
        refine r_iload_n 1 dX10_endOfToken_66 rfl rfl ?_
        refine r_aload_n 0 dX10_endOfToken_67 rfl rfl ?_
        refine r_getI (k := 56) (j := 1) sX_56 rfl fl_X10_13 dX10_endOfToken_68 ?_
        refine r_icmp_ge 96 dX10_endOfToken_71 (by decide) (fun c47 => ?_) (fun c47 => ?_)
        · rw [if_pos c47] at h
          refine r_sub [(2, .int v43)] [1] rfl ?_
          obtain rfl := Option.some.inj h
          exact hX v43 rfl
        · rw [if_neg c47] at h
          refine r_aload_n 0 dX10_endOfToken_74 rfl rfl ?_
          refine r_getC (k := 56) (j := 0) (r := 57) sX_56 rfl fl_X10_9 dX10_endOfToken_75 ?_
          refine r_iload_n 1 dX10_endOfToken_78 rfl rfl ?_
          obtain ⟨x44, hx44, h⟩ := b1_some h
          refine r_iaload sX_57 hx44 dX10_endOfToken_79 ?_
          refine r_bipush (v := 97) dX10_endOfToken_80 rfl ?_
          refine r_bipush (v := 122) dX10_endOfToken_82 rfl ?_
          obtain ⟨x45, hx45, h⟩ := b1_some h
          refine r_callSNi (rest := []) (by omega) (mX11_within hx45) cb_X11_within (by decide) sm_X11_within rfl rfl (Nat.le_of_ble_eq_true rfl) dX10_endOfToken_84 ?_
          refine r_if_eq 96 dX10_endOfToken_87 (by decide) (fun c46 => ?_) (fun c46 => ?_)
          · rw [if_pos c46] at h
            refine r_sub [(2, .int v43)] [1] rfl ?_
            obtain rfl := Option.some.inj h
            exact hX v43 rfl
          · rw [if_neg c46] at h
            refine r_iinc (v := v43 + 1) [(0, .ref (ad_ G 56)), (2, .int (v43 + 1))] 1 [1, 0] dX10_endOfToken_90 rfl rfl (by decide) rfl ?_
            refine r_goto 66 dX10_endOfToken_93 (by decide) ?_
            obtain rfl := Option.some.inj h
            exact hB (v43 + 1) rfl
      obtain ⟨u48, hu48, h⟩ := b1_some h
      refine key u48 hu48 ?_
      show Rn G shX 1 yX10_endOfToken cX10_endOfToken 3 (some .int) 96 [(2, .int u48)] [] S post
      refine r_iload_n 0 dX10_endOfToken_96 rfl rfl ?_
      obtain rfl := Option.some.inj h
      exact r_ireturn rfl dX10_endOfToken_97 (hp)
theorem mX10_endOfToken {G : Gx} {S : St} {v1 : Int32} {o : Int32}  (h : fX10_endOfToken S v1 = some o) : MR_ G shX 1 yX10_endOfToken cX10_endOfToken 3 (some .int) [.ref (ad_ G 56), .int v1] S (PI_ o S) := MR_of cb_X10_endOfToken (Nat.le_of_ble_eq_true rfl) [(0, .ref (ad_ G 56)), (1, .int v1)] rfl (tX10_endOfToken  h ⟨rfl, rfl⟩)
set_option maxRecDepth 100000 in
set_option maxHeartbeats 4000000 in
theorem tX10_spells {G : Gx} {post : Option Value → St → Prop} {k1 : Nat} {S : St} {v2 : Int32} {v3 : Int32} {o : Int32} (hk1 : k1 < 5) (h : fX10_spells k1 S v2 v3 = some o) (hp : post (some (.int o)) S) : Rn G shX 4 yX10_spells cX10_spells 5 (some .boolean) 0 [(0, .ref (ad_ G 56)), (1, .ref (kS_ G k1)), (2, .int v2), (3, .int v3)] [] S post := by
  unfold fX10_spells at h
  refine r_iload_n 3 dX10_spells_0 rfl rfl ?_
  refine r_iload_n 2 dX10_spells_1 rfl rfl ?_
  refine r_isub dX10_spells_2 ?_
  refine r_aload_n 1 dX10_spells_3 rfl rfl ?_
  obtain ⟨x21, hx21, h⟩ := b1_some h
  refine r_slen (rest := [.int (v3 - v2)]) (by omega) ml_X10_69 hx21 (Nat.le_of_ble_eq_true rfl) dX10_spells_4 ?_
  refine r_icmp_eq 12 dX10_spells_7 (by decide) (fun c30 => ?_) (fun c30 => ?_)
  · rw [if_pos c30] at h
    refine r_iconst (v := 0) dX10_spells_12 rfl ?_
    refine r_istore (i := 4) [(0, .ref (ad_ G 56)), (1, .ref (kS_ G k1)), (2, .int v2), (3, .int v3), (4, .int 0)] [1, 2, 3, 4, 0] dX10_spells_13 (by decide) rfl ?_
    refine r_sub [(0, .ref (ad_ G 56)), (1, .ref (kS_ G k1)), (2, .int v2), (4, .int 0)] [0, 1, 2, 4] rfl ?_
    have key : ∀ ex, lp (fun w22 : Int32 => bX10_spells_15 k1 S v2 w22) 5000 0 = some ex → (fun ex : (Unit) ⊕ Int32 => match ex with | .inl u29 => Rn G shX 4 yX10_spells cX10_spells 5 (some .boolean) 50 [] [] S post | .inr rr => post (some (.int rr)) S) ex → Rn G shX 4 yX10_spells cX10_spells 5 (some .boolean) 15 [(0, .ref (ad_ G 56)), (1, .ref (kS_ G k1)), (2, .int v2), (4, .int 0)] [] S post := by
      intro ex hl hx
      refine lp_rule (body := (fun w22 : Int32 => bX10_spells_15 k1 S v2 w22)) (R := (fun w22 : Int32 => Rn G shX 4 yX10_spells cX10_spells 5 (some .boolean) 15 [(0, .ref (ad_ G 56)), (1, .ref (kS_ G k1)), (2, .int v2), (4, .int w22)] [] S post)) (X := (fun ex : (Unit) ⊕ Int32 => match ex with | .inl u29 => Rn G shX 4 yX10_spells cX10_spells 5 (some .boolean) 50 [] [] S post | .inr rr => post (some (.int rr)) S)) ?_ 5000 0 ex hl hx
      intro w22 oo h hB hX
      obtain ⟨v23, rfl⟩ : ∃ z, z = w22 := ⟨_, rfl⟩
      replace h : bX10_spells_15 k1 S v2 v23 = some oo := h
      unfold bX10_spells_15 at h
      show Rn G shX 4 yX10_spells cX10_spells 5 (some .boolean) 15 [(0, .ref (ad_ G 56)), (1, .ref (kS_ G k1)), (2, .int v2), (4, .int v23)] [] S post
      refine r_iload 3 dX10_spells_15 rfl ?_
      refine r_aload_n 1 dX10_spells_17 rfl rfl ?_
      obtain ⟨x24, hx24, h⟩ := b1_some h
      refine r_slen (rest := [.int v23]) (by omega) ml_X10_69 hx24 (Nat.le_of_ble_eq_true rfl) dX10_spells_18 ?_
      refine r_icmp_ge 50 dX10_spells_21 (by decide) (fun c28 => ?_) (fun c28 => ?_)
      · rw [if_pos c28] at h
        refine r_sub [] [] rfl ?_
        obtain rfl := Option.some.inj h
        exact hX (.inl ()) rfl
      · rw [if_neg c28] at h
        refine r_aload_n 0 dX10_spells_24 rfl rfl ?_
        refine r_getC (k := 56) (j := 0) (r := 57) sX_56 rfl fl_X10_9 dX10_spells_25 ?_
        refine r_iload_n 2 dX10_spells_28 rfl rfl ?_
        refine r_iload 3 dX10_spells_29 rfl ?_
        refine r_iadd dX10_spells_31 ?_
        obtain ⟨x25, hx25, h⟩ := b1_some h
        refine r_iaload sX_57 hx25 dX10_spells_32 ?_
        refine r_aload_n 1 dX10_spells_33 rfl rfl ?_
        refine r_iload 3 dX10_spells_34 rfl ?_
        obtain ⟨x26, hx26, h⟩ := b1_some h
        refine r_schar (rest := [.int x25]) (by omega) ml_X10_74 hx26 (Nat.le_of_ble_eq_true rfl) dX10_spells_36 ?_
        refine r_icmp_eq 44 dX10_spells_39 (by decide) (fun c27 => ?_) (fun c27 => ?_)
        · rw [if_pos c27] at h
          refine r_iinc (v := v23 + 1) [(0, .ref (ad_ G 56)), (1, .ref (kS_ G k1)), (2, .int v2), (4, .int (v23 + 1))] 3 [1, 2, 3, 0] dX10_spells_44 rfl rfl (by decide) rfl ?_
          refine r_goto 15 dX10_spells_47 (by decide) ?_
          obtain rfl := Option.some.inj h
          exact hB (v23 + 1) rfl
        · rw [if_neg c27] at h
          refine r_iconst (v := 0) dX10_spells_42 rfl ?_
          obtain rfl := Option.some.inj h
          exact r_zreturn rfl (by decide) dX10_spells_43 (hX (.inr 0) rfl)
    rcases bs_some h with ⟨u29, hu29, h⟩ | ⟨rr, hu29, h⟩
    · refine key _ hu29 ?_
      show Rn G shX 4 yX10_spells cX10_spells 5 (some .boolean) 50 [] [] S post
      refine r_iconst (v := 1) dX10_spells_50 rfl ?_
      obtain rfl := Option.some.inj h
      exact r_zreturn rfl (by decide) dX10_spells_51 (hp)
    · refine key _ hu29 ?_
      show post (some (.int rr)) S
      obtain rfl := Option.some.inj h
      exact hp
  · rw [if_neg c30] at h
    refine r_iconst (v := 0) dX10_spells_10 rfl ?_
    obtain rfl := Option.some.inj h
    exact r_zreturn rfl (by decide) dX10_spells_11 (hp)
theorem mX10_spells {G : Gx} {k1 : Nat} {S : St} {v2 : Int32} {v3 : Int32} {o : Int32} (hk1 : k1 < 5) (h : fX10_spells k1 S v2 v3 = some o) : MR_ G shX 4 yX10_spells cX10_spells 5 (some .boolean) [.ref (ad_ G 56), .ref (kS_ G k1), .int v2, .int v3] S (PI_ o S) := MR_of cb_X10_spells (Nat.le_of_ble_eq_true rfl) [(0, .ref (ad_ G 56)), (1, .ref (kS_ G k1)), (2, .int v2), (3, .int v3)] rfl (tX10_spells hk1 h ⟨rfl, rfl⟩)
set_option maxRecDepth 100000 in
set_option maxHeartbeats 4000000 in
theorem tX10_wordKind {G : Gx} {post : Option Value → St → Prop} {S : St} {v1 : Int32} {v2 : Int32} {o : Int32}  (h : fX10_wordKind S v1 v2 = some o) (hp : post (some (.int o)) S) : Rn G shX 5 yX10_wordKind cX10_wordKind 3 (some .int) 0 [(0, .ref (ad_ G 56)), (1, .int v1), (2, .int v2)] [] S post := by
  unfold fX10_wordKind at h
  refine r_aload_n 0 dX10_wordKind_0 rfl rfl ?_
  refine r_ldcS 0 rfl rfl dX10_wordKind_1 ?_
  refine r_iload_n 1 dX10_wordKind_3 rfl rfl ?_
  refine r_iload_n 2 dX10_wordKind_4 rfl rfl ?_
  obtain ⟨x21, hx21, h⟩ := b1_some h
  refine r_callVi (k := 56) (rest := []) (by omega) (mX10_spells (by decide) hx21) sX_56 rfl rfl cb_X10_spells ml_X10_57 im_X10_spells se_X10_spells rfl rfl (Nat.le_of_ble_eq_true rfl) dX10_wordKind_5 ?_
  refine r_if_eq 15 dX10_wordKind_8 (by decide) (fun c30 => ?_) (fun c30 => ?_)
  · rw [if_pos c30] at h
    refine r_aload_n 0 dX10_wordKind_15 rfl rfl ?_
    refine r_ldcS 1 rfl rfl dX10_wordKind_16 ?_
    refine r_iload_n 1 dX10_wordKind_18 rfl rfl ?_
    refine r_iload_n 2 dX10_wordKind_19 rfl rfl ?_
    obtain ⟨x22, hx22, h⟩ := b1_some h
    refine r_callVi (k := 56) (rest := []) (by omega) (mX10_spells (by decide) hx22) sX_56 rfl rfl cb_X10_spells ml_X10_57 im_X10_spells se_X10_spells rfl rfl (Nat.le_of_ble_eq_true rfl) dX10_wordKind_20 ?_
    refine r_if_eq 31 dX10_wordKind_23 (by decide) (fun c29 => ?_) (fun c29 => ?_)
    · rw [if_pos c29] at h
      refine r_aload_n 0 dX10_wordKind_31 rfl rfl ?_
      refine r_ldcS 2 rfl rfl dX10_wordKind_32 ?_
      refine r_iload_n 1 dX10_wordKind_34 rfl rfl ?_
      refine r_iload_n 2 dX10_wordKind_35 rfl rfl ?_
      obtain ⟨x23, hx23, h⟩ := b1_some h
      refine r_callVi (k := 56) (rest := []) (by omega) (mX10_spells (by decide) hx23) sX_56 rfl rfl cb_X10_spells ml_X10_57 im_X10_spells se_X10_spells rfl rfl (Nat.le_of_ble_eq_true rfl) dX10_wordKind_36 ?_
      refine r_if_eq 47 dX10_wordKind_39 (by decide) (fun c28 => ?_) (fun c28 => ?_)
      · rw [if_pos c28] at h
        refine r_aload_n 0 dX10_wordKind_47 rfl rfl ?_
        refine r_ldcS 3 rfl rfl dX10_wordKind_48 ?_
        refine r_iload_n 1 dX10_wordKind_50 rfl rfl ?_
        refine r_iload_n 2 dX10_wordKind_51 rfl rfl ?_
        obtain ⟨x24, hx24, h⟩ := b1_some h
        refine r_callVi (k := 56) (rest := []) (by omega) (mX10_spells (by decide) hx24) sX_56 rfl rfl cb_X10_spells ml_X10_57 im_X10_spells se_X10_spells rfl rfl (Nat.le_of_ble_eq_true rfl) dX10_wordKind_52 ?_
        refine r_if_eq 63 dX10_wordKind_55 (by decide) (fun c27 => ?_) (fun c27 => ?_)
        · rw [if_pos c27] at h
          refine r_aload_n 0 dX10_wordKind_63 rfl rfl ?_
          refine r_ldcS 4 rfl rfl dX10_wordKind_64 ?_
          refine r_iload_n 1 dX10_wordKind_66 rfl rfl ?_
          refine r_iload_n 2 dX10_wordKind_67 rfl rfl ?_
          obtain ⟨x25, hx25, h⟩ := b1_some h
          refine r_callVi (k := 56) (rest := []) (by omega) (mX10_spells (by decide) hx25) sX_56 rfl rfl cb_X10_spells ml_X10_57 im_X10_spells se_X10_spells rfl rfl (Nat.le_of_ble_eq_true rfl) dX10_wordKind_68 ?_
          refine r_if_eq 79 dX10_wordKind_71 (by decide) (fun c26 => ?_) (fun c26 => ?_)
          · rw [if_pos c26] at h
            refine r_iconst (v := 1) dX10_wordKind_79 rfl ?_
            obtain rfl := Option.some.inj h
            exact r_ireturn rfl dX10_wordKind_80 (hp)
          · rw [if_neg c26] at h
            refine r_bipush (v := 9) dX10_wordKind_74 rfl ?_
            refine r_goto 80 dX10_wordKind_76 (by decide) ?_
            obtain rfl := Option.some.inj h
            exact r_ireturn rfl dX10_wordKind_80 (hp)
        · rw [if_neg c27] at h
          refine r_bipush (v := 8) dX10_wordKind_58 rfl ?_
          refine r_goto 80 dX10_wordKind_60 (by decide) ?_
          obtain rfl := Option.some.inj h
          exact r_ireturn rfl dX10_wordKind_80 (hp)
      · rw [if_neg c28] at h
        refine r_bipush (v := 7) dX10_wordKind_42 rfl ?_
        refine r_goto 80 dX10_wordKind_44 (by decide) ?_
        obtain rfl := Option.some.inj h
        exact r_ireturn rfl dX10_wordKind_80 (hp)
    · rw [if_neg c29] at h
      refine r_bipush (v := 6) dX10_wordKind_26 rfl ?_
      refine r_goto 80 dX10_wordKind_28 (by decide) ?_
      obtain rfl := Option.some.inj h
      exact r_ireturn rfl dX10_wordKind_80 (hp)
  · rw [if_neg c30] at h
    refine r_iconst (v := 5) dX10_wordKind_11 rfl ?_
    refine r_goto 80 dX10_wordKind_12 (by decide) ?_
    obtain rfl := Option.some.inj h
    exact r_ireturn rfl dX10_wordKind_80 (hp)
theorem mX10_wordKind {G : Gx} {S : St} {v1 : Int32} {v2 : Int32} {o : Int32}  (h : fX10_wordKind S v1 v2 = some o) : MR_ G shX 5 yX10_wordKind cX10_wordKind 3 (some .int) [.ref (ad_ G 56), .int v1, .int v2] S (PI_ o S) := MR_of cb_X10_wordKind (Nat.le_of_ble_eq_true rfl) [(0, .ref (ad_ G 56)), (1, .int v1), (2, .int v2)] rfl (tX10_wordKind  h ⟨rfl, rfl⟩)
set_option maxRecDepth 100000 in
set_option maxHeartbeats 4000000 in
theorem tX10_kindOf {G : Gx} {post : Option Value → St → Prop} {S : St} {v1 : Int32} {v2 : Int32} {o : Int32}  (h : fX10_kindOf S v1 v2 = some o) (hp : post (some (.int o)) S) : Rn G shX 6 yX10_kindOf cX10_kindOf 4 (some .int) 0 [(0, .ref (ad_ G 56)), (1, .int v1), (2, .int v2)] [] S post := by
  unfold fX10_kindOf at h
  refine r_aload_n 0 dX10_kindOf_0 rfl rfl ?_
  refine r_getC (k := 56) (j := 0) (r := 57) sX_56 rfl fl_X10_9 dX10_kindOf_1 ?_
  refine r_iload_n 1 dX10_kindOf_4 rfl rfl ?_
  obtain ⟨x21, hx21, h⟩ := b1_some h
  refine r_iaload sX_57 hx21 dX10_kindOf_5 ?_
  refine r_istore_n (i := 3) [(0, .ref (ad_ G 56)), (1, .int v1), (2, .int v2), (3, .int x21)] [1, 2, 3, 0] dX10_kindOf_6 rfl (by decide) rfl ?_
  refine r_iload_n 3 dX10_kindOf_7 rfl rfl ?_
  refine r_bipush (v := 65) dX10_kindOf_8 rfl ?_
  refine r_bipush (v := 72) dX10_kindOf_10 rfl ?_
  obtain ⟨x22, hx22, h⟩ := b1_some h
  refine r_callSNi (rest := []) (by omega) (mX11_within hx22) cb_X11_within (by decide) sm_X11_within rfl rfl (Nat.le_of_ble_eq_true rfl) dX10_kindOf_12 ?_
  refine r_if_eq 20 dX10_kindOf_15 (by decide) (fun c30 => ?_) (fun c30 => ?_)
  · rw [if_pos c30] at h
    refine r_iload_n 3 dX10_kindOf_20 rfl rfl ?_
    refine r_bipush (v := 48) dX10_kindOf_21 rfl ?_
    refine r_bipush (v := 57) dX10_kindOf_23 rfl ?_
    obtain ⟨x23, hx23, h⟩ := b1_some h
    refine r_callSNi (rest := []) (by omega) (mX11_within hx23) cb_X11_within (by decide) sm_X11_within rfl rfl (Nat.le_of_ble_eq_true rfl) dX10_kindOf_25 ?_
    refine r_if_eq 44 dX10_kindOf_28 (by decide) (fun c29 => ?_) (fun c29 => ?_)
    · rw [if_pos c29] at h
      refine r_iload_n 3 dX10_kindOf_44 rfl rfl ?_
      refine r_bipush (v := 97) dX10_kindOf_45 rfl ?_
      refine r_bipush (v := 122) dX10_kindOf_47 rfl ?_
      obtain ⟨x24, hx24, h⟩ := b1_some h
      refine r_callSNi (rest := []) (by omega) (mX11_within hx24) cb_X11_within (by decide) sm_X11_within rfl rfl (Nat.le_of_ble_eq_true rfl) dX10_kindOf_49 ?_
      refine r_if_eq 62 dX10_kindOf_52 (by decide) (fun c27 => ?_) (fun c27 => ?_)
      · rw [if_pos c27] at h
        refine r_iload_n 3 dX10_kindOf_62 rfl rfl ?_
        refine r_bipush (v := 59) dX10_kindOf_63 rfl ?_
        refine r_icmp_ne 72 dX10_kindOf_65 (by decide) (fun c25 => ?_) (fun c25 => ?_)
        · rw [if_neg c25] at h
          refine r_iconst (v := 1) dX10_kindOf_72 rfl ?_
          obtain rfl := Option.some.inj h
          exact r_ireturn rfl dX10_kindOf_73 (hp)
        · rw [if_pos c25] at h
          refine r_iconst (v := 4) dX10_kindOf_68 rfl ?_
          refine r_goto 73 dX10_kindOf_69 (by decide) ?_
          obtain rfl := Option.some.inj h
          exact r_ireturn rfl dX10_kindOf_73 (hp)
      · rw [if_neg c27] at h
        refine r_aload_n 0 dX10_kindOf_55 rfl rfl ?_
        refine r_iload_n 1 dX10_kindOf_56 rfl rfl ?_
        refine r_iload_n 2 dX10_kindOf_57 rfl rfl ?_
        obtain ⟨x26, hx26, h⟩ := b1_some h
        refine r_callVi (k := 56) (rest := []) (by omega) (mX10_wordKind hx26) sX_56 rfl rfl cb_X10_wordKind ml_X10_52 im_X10_wordKind se_X10_wordKind rfl rfl (Nat.le_of_ble_eq_true rfl) dX10_kindOf_58 ?_
        obtain rfl := Option.some.inj h
        exact r_ireturn rfl dX10_kindOf_61 (hp)
    · rw [if_neg c29] at h
      refine r_iload_n 2 dX10_kindOf_31 rfl rfl ?_
      refine r_iload_n 1 dX10_kindOf_32 rfl rfl ?_
      refine r_isub dX10_kindOf_33 ?_
      refine r_iconst (v := 4) dX10_kindOf_34 rfl ?_
      refine r_icmp_le 42 dX10_kindOf_35 (by decide) (fun c28 => ?_) (fun c28 => ?_)
      · rw [if_pos c28] at h
        refine r_iconst (v := 3) dX10_kindOf_42 rfl ?_
        obtain rfl := Option.some.inj h
        exact r_ireturn rfl dX10_kindOf_43 (hp)
      · rw [if_neg c28] at h
        refine r_iconst (v := 1) dX10_kindOf_38 rfl ?_
        refine r_goto 43 dX10_kindOf_39 (by decide) ?_
        obtain rfl := Option.some.inj h
        exact r_ireturn rfl dX10_kindOf_43 (hp)
  · rw [if_neg c30] at h
    refine r_iconst (v := 2) dX10_kindOf_18 rfl ?_
    obtain rfl := Option.some.inj h
    exact r_ireturn rfl dX10_kindOf_19 (hp)
theorem mX10_kindOf {G : Gx} {S : St} {v1 : Int32} {v2 : Int32} {o : Int32}  (h : fX10_kindOf S v1 v2 = some o) : MR_ G shX 6 yX10_kindOf cX10_kindOf 4 (some .int) [.ref (ad_ G 56), .int v1, .int v2] S (PI_ o S) := MR_of cb_X10_kindOf (Nat.le_of_ble_eq_true rfl) [(0, .ref (ad_ G 56)), (1, .int v1), (2, .int v2)] rfl (tX10_kindOf  h ⟨rfl, rfl⟩)
set_option maxRecDepth 100000 in
set_option maxHeartbeats 4000000 in
theorem tX10_valueOf {G : Gx} {post : Option Value → St → Prop} {S : St} {v1 : Int32} {v2 : Int32} {o : Int32}  (h : fX10_valueOf S v1 v2 = some o) (hp : post (some (.int o)) S) : Rn G shX 1 yX10_valueOf cX10_valueOf 5 (some .int) 0 [(0, .ref (ad_ G 56)), (1, .int v1), (2, .int v2)] [] S post := by
  unfold fX10_valueOf at h
  refine r_aload_n 0 dX10_valueOf_0 rfl rfl ?_
  refine r_getC (k := 56) (j := 0) (r := 57) sX_56 rfl fl_X10_9 dX10_valueOf_1 ?_
  refine r_iload_n 1 dX10_valueOf_4 rfl rfl ?_
  obtain ⟨x21, hx21, h⟩ := b1_some h
  refine r_iaload sX_57 hx21 dX10_valueOf_5 ?_
  refine r_bipush (v := 65) dX10_valueOf_6 rfl ?_
  refine r_bipush (v := 72) dX10_valueOf_8 rfl ?_
  obtain ⟨x22, hx22, h⟩ := b1_some h
  refine r_callSNi (rest := []) (by omega) (mX11_within hx22) cb_X11_within (by decide) sm_X11_within rfl rfl (Nat.le_of_ble_eq_true rfl) dX10_valueOf_10 ?_
  refine r_if_eq 26 dX10_valueOf_13 (by decide) (fun c33 => ?_) (fun c33 => ?_)
  · rw [if_pos c33] at h
    refine r_iconst (v := 0) dX10_valueOf_26 rfl ?_
    refine r_istore_n (i := 3) [(0, .ref (ad_ G 56)), (1, .int v1), (2, .int v2), (3, .int 0)] [1, 2, 3, 0] dX10_valueOf_27 rfl (by decide) rfl ?_
    refine r_iload_n 1 dX10_valueOf_28 rfl rfl ?_
    refine r_istore (i := 4) [(0, .ref (ad_ G 56)), (1, .int v1), (2, .int v2), (3, .int 0), (4, .int v1)] [1, 2, 3, 4, 0] dX10_valueOf_29 (by decide) rfl ?_
    refine r_sub [(0, .ref (ad_ G 56)), (2, .int v2), (3, .int 0), (4, .int v1)] [0, 2, 3, 4] rfl ?_
    have key : ∀ ex, lp (fun w23 : Int32 × Int32 => bX10_valueOf_31 S v2 w23.1 w23.2) 5000 (0, v1) = some ex → (fun u31 : Int32 => Rn G shX 1 yX10_valueOf cX10_valueOf 5 (some .int) 76 [(3, .int u31)] [] S post) ex → Rn G shX 1 yX10_valueOf cX10_valueOf 5 (some .int) 31 [(0, .ref (ad_ G 56)), (2, .int v2), (3, .int 0), (4, .int v1)] [] S post := by
      intro ex hl hx
      refine lp_rule (body := (fun w23 : Int32 × Int32 => bX10_valueOf_31 S v2 w23.1 w23.2)) (R := (fun w23 : Int32 × Int32 => Rn G shX 1 yX10_valueOf cX10_valueOf 5 (some .int) 31 [(0, .ref (ad_ G 56)), (2, .int v2), (3, .int w23.1), (4, .int w23.2)] [] S post)) (X := (fun u31 : Int32 => Rn G shX 1 yX10_valueOf cX10_valueOf 5 (some .int) 76 [(3, .int u31)] [] S post)) ?_ 5000 (0, v1) ex hl hx
      intro w23 oo h hB hX
      obtain ⟨v24, v25⟩ := w23
      replace h : bX10_valueOf_31 S v2 v24 v25 = some oo := h
      unfold bX10_valueOf_31 at h
      show Rn G shX 1 yX10_valueOf cX10_valueOf 5 (some .int) 31 [(0, .ref (ad_ G 56)), (2, .int v2), (3, .int v24), (4, .int v25)] [] S post
      refine r_iload 3 dX10_valueOf_31 rfl ?_
      refine r_iload_n 1 dX10_valueOf_33 rfl rfl ?_
      refine r_icmp_ge 76 dX10_valueOf_34 (by decide) (fun c30 => ?_) (fun c30 => ?_)
      · rw [if_pos c30] at h
        refine r_sub [(3, .int v24)] [2] rfl ?_
        obtain rfl := Option.some.inj h
        exact hX v24 rfl
      · rw [if_neg c30] at h
        refine r_aload_n 0 dX10_valueOf_37 rfl rfl ?_
        refine r_getC (k := 56) (j := 0) (r := 57) sX_56 rfl fl_X10_9 dX10_valueOf_38 ?_
        refine r_iload 3 dX10_valueOf_41 rfl ?_
        obtain ⟨x26, hx26, h⟩ := b1_some h
        refine r_iaload sX_57 hx26 dX10_valueOf_43 ?_
        refine r_bipush (v := 48) dX10_valueOf_44 rfl ?_
        refine r_bipush (v := 57) dX10_valueOf_46 rfl ?_
        obtain ⟨x27, hx27, h⟩ := b1_some h
        refine r_callSNi (rest := []) (by omega) (mX11_within hx27) cb_X11_within (by decide) sm_X11_within rfl rfl (Nat.le_of_ble_eq_true rfl) dX10_valueOf_48 ?_
        refine r_if_eq 76 dX10_valueOf_51 (by decide) (fun c29 => ?_) (fun c29 => ?_)
        · rw [if_pos c29] at h
          refine r_sub [(3, .int v24)] [2] rfl ?_
          obtain rfl := Option.some.inj h
          exact hX v24 rfl
        · rw [if_neg c29] at h
          refine r_iload_n 2 dX10_valueOf_54 rfl rfl ?_
          refine r_bipush (v := 10) dX10_valueOf_55 rfl ?_
          refine r_imul dX10_valueOf_57 ?_
          refine r_aload_n 0 dX10_valueOf_58 rfl rfl ?_
          refine r_getC (k := 56) (j := 0) (r := 57) sX_56 rfl fl_X10_9 dX10_valueOf_59 ?_
          refine r_iload 3 dX10_valueOf_62 rfl ?_
          obtain ⟨x28, hx28, h⟩ := b1_some h
          refine r_iaload sX_57 hx28 dX10_valueOf_64 ?_
          refine r_iadd dX10_valueOf_65 ?_
          refine r_bipush (v := 48) dX10_valueOf_66 rfl ?_
          refine r_isub dX10_valueOf_68 ?_
          refine r_istore_n (i := 3) [(0, .ref (ad_ G 56)), (2, .int v2), (3, .int (((v24 * 10) + x28) - 48)), (4, .int v25)] [1, 2, 0, 3] dX10_valueOf_69 rfl (by decide) rfl ?_
          refine r_iinc (v := v25 + 1) [(0, .ref (ad_ G 56)), (2, .int v2), (3, .int (((v24 * 10) + x28) - 48)), (4, .int (v25 + 1))] 3 [1, 2, 3, 0] dX10_valueOf_70 rfl rfl (by decide) rfl ?_
          refine r_goto 31 dX10_valueOf_73 (by decide) ?_
          obtain rfl := Option.some.inj h
          exact hB (((v24 * 10) + x28) - 48, v25 + 1) rfl
    obtain ⟨u31, hu31, h⟩ := b1_some h
    refine key u31 hu31 ?_
    show Rn G shX 1 yX10_valueOf cX10_valueOf 5 (some .int) 76 [(3, .int u31)] [] S post
    refine r_iload_n 0 dX10_valueOf_76 rfl rfl ?_
    obtain rfl := Option.some.inj h
    exact r_ireturn rfl dX10_valueOf_77 (hp)
  · rw [if_neg c33] at h
    refine r_aload_n 0 dX10_valueOf_16 rfl rfl ?_
    refine r_getC (k := 56) (j := 0) (r := 57) sX_56 rfl fl_X10_9 dX10_valueOf_17 ?_
    refine r_iload_n 1 dX10_valueOf_20 rfl rfl ?_
    obtain ⟨x32, hx32, h⟩ := b1_some h
    refine r_iaload sX_57 hx32 dX10_valueOf_21 ?_
    refine r_bipush (v := 65) dX10_valueOf_22 rfl ?_
    refine r_isub dX10_valueOf_24 ?_
    obtain rfl := Option.some.inj h
    exact r_ireturn rfl dX10_valueOf_25 (hp)
theorem mX10_valueOf {G : Gx} {S : St} {v1 : Int32} {v2 : Int32} {o : Int32}  (h : fX10_valueOf S v1 v2 = some o) : MR_ G shX 1 yX10_valueOf cX10_valueOf 5 (some .int) [.ref (ad_ G 56), .int v1, .int v2] S (PI_ o S) := MR_of cb_X10_valueOf (Nat.le_of_ble_eq_true rfl) [(0, .ref (ad_ G 56)), (1, .int v1), (2, .int v2)] rfl (tX10_valueOf  h ⟨rfl, rfl⟩)
set_option maxRecDepth 100000 in
set_option maxHeartbeats 4000000 in
theorem tX10_note {G : Gx} {post : Option Value → St → Prop} {S : St} {v1 : Int32} {v2 : Int32} {v3 : Int32} {o : St}  (h : fX10_note S v1 v2 v3 = some o) (hp : post none o) : Rn G shX 0 yX10_note cX10_note 4 none 0 [(0, .ref (ad_ G 56)), (1, .int v1), (2, .int v2), (3, .int v3)] [] S post := by
  unfold fX10_note at h
  refine r_aload_n 0 dX10_note_0 rfl rfl ?_
  refine r_getC (k := 56) (j := 2) (r := 58) sX_56 rfl fl_X10_17 dX10_note_1 ?_
  refine r_aload_n 0 dX10_note_4 rfl rfl ?_
  refine r_getI (k := 56) (j := 5) sX_56 rfl fl_X10_26 dX10_note_5 ?_
  refine r_iload_n 1 dX10_note_8 rfl rfl ?_
  obtain ⟨S21, hS21, h⟩ := b1_some h
  refine r_iastore sX_58 hS21 dX10_note_9 ?_
  refine r_aload_n 0 dX10_note_10 rfl rfl ?_
  refine r_getC (k := 56) (j := 3) (r := 59) sX_56 rfl fl_X10_20 dX10_note_11 ?_
  refine r_aload_n 0 dX10_note_14 rfl rfl ?_
  refine r_getI (k := 56) (j := 5) sX_56 rfl fl_X10_26 dX10_note_15 ?_
  refine r_iload_n 2 dX10_note_18 rfl rfl ?_
  obtain ⟨S22, hS22, h⟩ := b1_some h
  refine r_iastore sX_59 hS22 dX10_note_19 ?_
  refine r_aload_n 0 dX10_note_20 rfl rfl ?_
  refine r_getC (k := 56) (j := 4) (r := 60) sX_56 rfl fl_X10_23 dX10_note_21 ?_
  refine r_aload_n 0 dX10_note_24 rfl rfl ?_
  refine r_getI (k := 56) (j := 5) sX_56 rfl fl_X10_26 dX10_note_25 ?_
  refine r_iload_n 3 dX10_note_28 rfl rfl ?_
  obtain ⟨S23, hS23, h⟩ := b1_some h
  refine r_iastore sX_60 hS23 dX10_note_29 ?_
  refine r_aload_n 0 dX10_note_30 rfl rfl ?_
  refine r_dup dX10_note_31 rfl ?_
  refine r_getI (k := 56) (j := 5) sX_56 rfl fl_X10_26 dX10_note_32 ?_
  refine r_iconst (v := 1) dX10_note_35 rfl ?_
  refine r_iadd dX10_note_36 ?_
  obtain ⟨S24, hS24, h⟩ := b1_some h
  refine r_setI (k := 56) (j := 5) sX_56 rfl pf_X10_26 hS24 dX10_note_37 ?_
  obtain rfl := Option.some.inj h
  exact r_return rfl dX10_note_40 (hp)
theorem mX10_note {G : Gx} {S : St} {v1 : Int32} {v2 : Int32} {v3 : Int32} {o : St}  (h : fX10_note S v1 v2 v3 = some o) : MR_ G shX 0 yX10_note cX10_note 4 none [.ref (ad_ G 56), .int v1, .int v2, .int v3] S (PV_ o) := MR_of cb_X10_note (Nat.le_of_ble_eq_true rfl) [(0, .ref (ad_ G 56)), (1, .int v1), (2, .int v2), (3, .int v3)] rfl (tX10_note  h ⟨rfl, rfl⟩)
set_option maxRecDepth 100000 in
set_option maxHeartbeats 4000000 in
theorem tX10_split {G : Gx} {post : Option Value → St → Prop} {S : St} {o : St}  (h : fX10_split S = some o) (hp : post none o) : Rn G shX 7 yX10_split cX10_split 4 none 0 [(0, .ref (ad_ G 56))] [] S post := by
  unfold fX10_split at h
  refine r_aload_n 0 dX10_split_0 rfl rfl ?_
  refine r_iconst (v := 0) dX10_split_1 rfl ?_
  obtain ⟨S21, hS21, h⟩ := b1_some h
  refine r_setI (k := 56) (j := 5) sX_56 rfl pf_X10_26 hS21 dX10_split_2 ?_
  refine r_iconst (v := 0) dX10_split_5 rfl ?_
  refine r_istore_n (i := 1) [(0, .ref (ad_ G 56)), (1, .int 0)] [1, 0] dX10_split_6 rfl (by decide) rfl ?_
  refine r_iconst (v := 0) dX10_split_7 rfl ?_
  refine r_istore_n (i := 2) [(0, .ref (ad_ G 56)), (1, .int 0), (2, .int 0)] [1, 2, 0] dX10_split_8 rfl (by decide) rfl ?_
  have key : ∀ ex, lp (fun w22 : Int32 × Int32 × St => bX10_split_9  w22.1 w22.2.1 w22.2.2) 5000 (0, 0, S21) = some ex → (fun u34 : St => Rn G shX 7 yX10_split cX10_split 4 none 66 [(0, .ref (ad_ G 56))] [] u34 post) ex → Rn G shX 7 yX10_split cX10_split 4 none 9 [(0, .ref (ad_ G 56)), (1, .int 0), (2, .int 0)] [] S21 post := by
    intro ex hl hx
    refine lp_rule (body := (fun w22 : Int32 × Int32 × St => bX10_split_9  w22.1 w22.2.1 w22.2.2)) (R := (fun w22 : Int32 × Int32 × St => Rn G shX 7 yX10_split cX10_split 4 none 9 [(0, .ref (ad_ G 56)), (1, .int w22.1), (2, .int w22.2.1)] [] w22.2.2 post)) (X := (fun u34 : St => Rn G shX 7 yX10_split cX10_split 4 none 66 [(0, .ref (ad_ G 56))] [] u34 post)) ?_ 5000 (0, 0, S21) ex hl hx
    intro w22 oo h hB hX
    obtain ⟨v23, v24, S25⟩ := w22
    replace h : bX10_split_9  v23 v24 S25 = some oo := h
    unfold bX10_split_9 at h
    show Rn G shX 7 yX10_split cX10_split 4 none 9 [(0, .ref (ad_ G 56)), (1, .int v23), (2, .int v24)] [] S25 post
    refine r_iload_n 2 dX10_split_9 rfl rfl ?_
    refine r_sipush (v := 200) dX10_split_10 rfl ?_
    refine r_icmp_ge 66 dX10_split_13 (by decide) (fun c33 => ?_) (fun c33 => ?_)
    · rw [if_pos c33] at h
      refine r_sub [(0, .ref (ad_ G 56))] [0] rfl ?_
      obtain rfl := Option.some.inj h
      exact hX S25 rfl
    · rw [if_neg c33] at h
      refine r_iload_n 1 dX10_split_16 rfl rfl ?_
      refine r_aload_n 0 dX10_split_17 rfl rfl ?_
      refine r_getI (k := 56) (j := 1) sX_56 rfl fl_X10_13 dX10_split_18 ?_
      refine r_icmp_ge 66 dX10_split_21 (by decide) (fun c32 => ?_) (fun c32 => ?_)
      · rw [if_pos c32] at h
        refine r_sub [(0, .ref (ad_ G 56))] [0] rfl ?_
        obtain rfl := Option.some.inj h
        exact hX S25 rfl
      · rw [if_neg c32] at h
        refine r_aload_n 0 dX10_split_24 rfl rfl ?_
        refine r_iload_n 1 dX10_split_25 rfl rfl ?_
        obtain ⟨x26, hx26, h⟩ := b1_some h
        refine r_callVi (k := 56) (rest := []) (by omega) (mX10_endOfToken hx26) sX_56 rfl rfl cb_X10_endOfToken ml_X10_31 im_X10_endOfToken se_X10_endOfToken rfl rfl (Nat.le_of_ble_eq_true rfl) dX10_split_26 ?_
        refine r_istore_n (i := 3) [(0, .ref (ad_ G 56)), (1, .int v23), (2, .int v24), (3, .int x26)] [1, 2, 3, 0] dX10_split_29 rfl (by decide) rfl ?_
        refine r_aload_n 0 dX10_split_30 rfl rfl ?_
        refine r_getC (k := 56) (j := 0) (r := 57) sX_56 rfl fl_X10_9 dX10_split_31 ?_
        refine r_iload_n 1 dX10_split_34 rfl rfl ?_
        obtain ⟨x27, hx27, h⟩ := b1_some h
        refine r_iaload sX_57 hx27 dX10_split_35 ?_
        refine r_bipush (v := 32) dX10_split_36 rfl ?_
        refine r_icmp_eq 58 dX10_split_38 (by decide) (fun c31 => ?_) (fun c31 => ?_)
        · rw [if_pos c31] at h
          refine r_iload_n 3 dX10_split_58 rfl rfl ?_
          refine r_istore_n (i := 1) [(0, .ref (ad_ G 56)), (1, .int x26), (2, .int v24), (3, .int x26)] [1, 0, 2, 3] dX10_split_59 rfl (by decide) rfl ?_
          refine r_iinc (v := v24 + 1) [(0, .ref (ad_ G 56)), (1, .int x26), (2, .int (v24 + 1)), (3, .int x26)] 2 [1, 2, 0, 3] dX10_split_60 rfl rfl (by decide) rfl ?_
          refine r_goto 9 dX10_split_63 (by decide) ?_
          refine r_sub [(0, .ref (ad_ G 56)), (1, .int x26), (2, .int (v24 + 1))] [0, 1, 2] rfl ?_
          obtain rfl := Option.some.inj h
          exact hB (x26, v24 + 1, S25) rfl
        · rw [if_neg c31] at h
          refine r_aload_n 0 dX10_split_41 rfl rfl ?_
          refine r_aload_n 0 dX10_split_42 rfl rfl ?_
          refine r_iload_n 1 dX10_split_43 rfl rfl ?_
          refine r_iload_n 3 dX10_split_44 rfl rfl ?_
          obtain ⟨x28, hx28, h⟩ := b1_some h
          refine r_callVi (k := 56) (rest := [.ref (ad_ G 56)]) (by omega) (mX10_kindOf hx28) sX_56 rfl rfl cb_X10_kindOf ml_X10_35 im_X10_kindOf se_X10_kindOf rfl rfl (Nat.le_of_ble_eq_true rfl) dX10_split_45 ?_
          refine r_aload_n 0 dX10_split_48 rfl rfl ?_
          refine r_iload_n 1 dX10_split_49 rfl rfl ?_
          refine r_iload_n 3 dX10_split_50 rfl rfl ?_
          obtain ⟨x29, hx29, h⟩ := b1_some h
          refine r_callVi (k := 56) (rest := [.int x28, .ref (ad_ G 56)]) (by omega) (mX10_valueOf hx29) sX_56 rfl rfl cb_X10_valueOf ml_X10_39 im_X10_valueOf se_X10_valueOf rfl rfl (Nat.le_of_ble_eq_true rfl) dX10_split_51 ?_
          refine r_iload_n 1 dX10_split_54 rfl rfl ?_
          obtain ⟨S30, hS30, h⟩ := b1_some h
          refine r_callVv (k := 56) (rest := []) (by omega) (mX10_note hS30) sX_56 rfl rfl cb_X10_note ml_X10_42 im_X10_note se_X10_note rfl rfl (Nat.le_of_ble_eq_true rfl) dX10_split_55 ?_
          refine r_iload_n 3 dX10_split_58 rfl rfl ?_
          refine r_istore_n (i := 1) [(0, .ref (ad_ G 56)), (1, .int x26), (2, .int v24), (3, .int x26)] [1, 0, 2, 3] dX10_split_59 rfl (by decide) rfl ?_
          refine r_iinc (v := v24 + 1) [(0, .ref (ad_ G 56)), (1, .int x26), (2, .int (v24 + 1)), (3, .int x26)] 2 [1, 2, 0, 3] dX10_split_60 rfl rfl (by decide) rfl ?_
          refine r_goto 9 dX10_split_63 (by decide) ?_
          refine r_sub [(0, .ref (ad_ G 56)), (1, .int x26), (2, .int (v24 + 1))] [0, 1, 2] rfl ?_
          obtain rfl := Option.some.inj h
          exact hB (x26, v24 + 1, S30) rfl
  obtain ⟨u34, hu34, h⟩ := b1_some h
  refine key u34 hu34 ?_
  show Rn G shX 7 yX10_split cX10_split 4 none 66 [(0, .ref (ad_ G 56))] [] u34 post
  refine r_aload_n 0 dX10_split_66 rfl rfl ?_
  refine r_iconst (v := 0) dX10_split_67 rfl ?_
  refine r_iconst (v := 0) dX10_split_68 rfl ?_
  refine r_aload_n 0 dX10_split_69 rfl rfl ?_
  refine r_getI (k := 56) (j := 1) sX_56 rfl fl_X10_13 dX10_split_70 ?_
  obtain ⟨S35, hS35, h⟩ := b1_some h
  refine r_callVv (k := 56) (rest := []) (by omega) (mX10_note hS35) sX_56 rfl rfl cb_X10_note ml_X10_42 im_X10_note se_X10_note rfl rfl (Nat.le_of_ble_eq_true rfl) dX10_split_73 ?_
  obtain rfl := Option.some.inj h
  exact r_return rfl dX10_split_76 (hp)
theorem mX10_split {G : Gx} {S : St} {o : St}  (h : fX10_split S = some o) : MR_ G shX 7 yX10_split cX10_split 4 none [.ref (ad_ G 56)] S (PV_ o) := MR_of cb_X10_split (Nat.le_of_ble_eq_true rfl) [(0, .ref (ad_ G 56))] rfl (tX10_split  h ⟨rfl, rfl⟩)
set_option maxRecDepth 100000 in
set_option maxHeartbeats 4000000 in
theorem tX2_advance {G : Gx} {post : Option Value → St → Prop} {S : St} {o : St}  (h : fX2_advance S = some o) (hp : post none o) : Rn G shX 0 yX2_advance cX2_advance 1 none 0 [(0, .ref (ad_ G 61))] [] S post := by
  unfold fX2_advance at h
  refine r_aload_n 0 dX2_advance_0 rfl rfl ?_
  refine r_aload_n 0 dX2_advance_1 rfl rfl ?_
  refine r_getC (k := 61) (j := 0) (r := 56) sX_61 rfl fl_X2_32 dX2_advance_2 ?_
  refine r_getC (k := 56) (j := 2) (r := 58) sX_56 rfl fl_X2_115 dX2_advance_5 ?_
  refine r_aload_n 0 dX2_advance_8 rfl rfl ?_
  refine r_getI (k := 61) (j := 1) sX_61 rfl fl_X2_9 dX2_advance_9 ?_
  obtain ⟨x21, hx21, h⟩ := b1_some h
  refine r_iaload sX_58 hx21 dX2_advance_12 ?_
  obtain ⟨S22, hS22, h⟩ := b1_some h
  refine r_setI (k := 61) (j := 2) sX_61 rfl pf_X2_17 hS22 dX2_advance_13 ?_
  refine r_aload_n 0 dX2_advance_16 rfl rfl ?_
  refine r_aload_n 0 dX2_advance_17 rfl rfl ?_
  refine r_getC (k := 61) (j := 0) (r := 56) sX_61 rfl fl_X2_32 dX2_advance_18 ?_
  refine r_getC (k := 56) (j := 3) (r := 59) sX_56 rfl fl_X2_118 dX2_advance_21 ?_
  refine r_aload_n 0 dX2_advance_24 rfl rfl ?_
  refine r_getI (k := 61) (j := 1) sX_61 rfl fl_X2_9 dX2_advance_25 ?_
  obtain ⟨x23, hx23, h⟩ := b1_some h
  refine r_iaload sX_59 hx23 dX2_advance_28 ?_
  obtain ⟨S24, hS24, h⟩ := b1_some h
  refine r_setI (k := 61) (j := 3) sX_61 rfl pf_X2_20 hS24 dX2_advance_29 ?_
  refine r_aload_n 0 dX2_advance_32 rfl rfl ?_
  refine r_aload_n 0 dX2_advance_33 rfl rfl ?_
  refine r_getC (k := 61) (j := 0) (r := 56) sX_61 rfl fl_X2_32 dX2_advance_34 ?_
  refine r_getC (k := 56) (j := 4) (r := 60) sX_56 rfl fl_X2_121 dX2_advance_37 ?_
  refine r_aload_n 0 dX2_advance_40 rfl rfl ?_
  refine r_getI (k := 61) (j := 1) sX_61 rfl fl_X2_9 dX2_advance_41 ?_
  obtain ⟨x25, hx25, h⟩ := b1_some h
  refine r_iaload sX_60 hx25 dX2_advance_44 ?_
  obtain ⟨S26, hS26, h⟩ := b1_some h
  refine r_setI (k := 61) (j := 4) sX_61 rfl pf_X2_23 hS26 dX2_advance_45 ?_
  refine r_aload_n 0 dX2_advance_48 rfl rfl ?_
  refine r_getI (k := 61) (j := 1) sX_61 rfl fl_X2_9 dX2_advance_49 ?_
  refine r_aload_n 0 dX2_advance_52 rfl rfl ?_
  refine r_getC (k := 61) (j := 0) (r := 56) sX_61 rfl fl_X2_32 dX2_advance_53 ?_
  refine r_getI (k := 56) (j := 5) sX_56 rfl fl_X2_124 dX2_advance_56 ?_
  refine r_iconst (v := 1) dX2_advance_59 rfl ?_
  refine r_isub dX2_advance_60 ?_
  refine r_icmp_ge 74 dX2_advance_61 (by decide) (fun c28 => ?_) (fun c28 => ?_)
  · rw [if_pos c28] at h
    obtain rfl := Option.some.inj h
    exact r_return rfl dX2_advance_74 (hp)
  · rw [if_neg c28] at h
    refine r_aload_n 0 dX2_advance_64 rfl rfl ?_
    refine r_dup dX2_advance_65 rfl ?_
    refine r_getI (k := 61) (j := 1) sX_61 rfl fl_X2_9 dX2_advance_66 ?_
    refine r_iconst (v := 1) dX2_advance_69 rfl ?_
    refine r_iadd dX2_advance_70 ?_
    obtain ⟨S27, hS27, h⟩ := b1_some h
    refine r_setI (k := 61) (j := 1) sX_61 rfl pf_X2_9 hS27 dX2_advance_71 ?_
    obtain rfl := Option.some.inj h
    exact r_return rfl dX2_advance_74 (hp)
theorem mX2_advance {G : Gx} {S : St} {o : St}  (h : fX2_advance S = some o) : MR_ G shX 0 yX2_advance cX2_advance 1 none [.ref (ad_ G 61)] S (PV_ o) := MR_of cb_X2_advance (Nat.le_of_ble_eq_true rfl) [(0, .ref (ad_ G 61))] rfl (tX2_advance  h ⟨rfl, rfl⟩)
set_option maxRecDepth 100000 in
set_option maxHeartbeats 4000000 in
theorem tX2_fail {G : Gx} {post : Option Value → St → Prop} {S : St} {v1 : Int32} {o : (Int32 × St)}  (h : fX2_fail S v1 = some o) (hp : post (some (.int o.1)) o.2) : Rn G shX 0 yX2_fail cX2_fail 2 (some .boolean) 0 [(0, .ref (ad_ G 61)), (1, .int v1)] [] S post := by
  unfold fX2_fail at h
  refine r_aload_n 0 dX2_fail_0 rfl rfl ?_
  refine r_iload_n 1 dX2_fail_1 rfl rfl ?_
  obtain ⟨S21, hS21, h⟩ := b1_some h
  refine r_setI (k := 61) (j := 5) sX_61 rfl pf_X2_26 hS21 dX2_fail_2 ?_
  refine r_aload_n 0 dX2_fail_5 rfl rfl ?_
  refine r_aload_n 0 dX2_fail_6 rfl rfl ?_
  refine r_getI (k := 61) (j := 4) sX_61 rfl fl_X2_23 dX2_fail_7 ?_
  obtain ⟨S22, hS22, h⟩ := b1_some h
  refine r_setI (k := 61) (j := 6) sX_61 rfl pf_X2_29 hS22 dX2_fail_10 ?_
  refine r_iconst (v := 0) dX2_fail_13 rfl ?_
  obtain rfl := Option.some.inj h
  exact r_zreturn rfl (by decide) dX2_fail_14 (hp)
theorem mX2_fail {G : Gx} {S : St} {v1 : Int32} {o : (Int32 × St)}  (h : fX2_fail S v1 = some o) : MR_ G shX 0 yX2_fail cX2_fail 2 (some .boolean) [.ref (ad_ G 61), .int v1] S (PI_ o.1 o.2) := MR_of cb_X2_fail (Nat.le_of_ble_eq_true rfl) [(0, .ref (ad_ G 61)), (1, .int v1)] rfl (tX2_fail  h ⟨rfl, rfl⟩)
set_option maxRecDepth 100000 in
set_option maxHeartbeats 4000000 in
theorem tX2_expect {G : Gx} {post : Option Value → St → Prop} {S : St} {v1 : Int32} {o : (Int32 × St)}  (h : fX2_expect S v1 = some o) (hp : post (some (.int o.1)) o.2) : Rn G shX 1 yX2_expect cX2_expect 2 (some .boolean) 0 [(0, .ref (ad_ G 61)), (1, .int v1)] [] S post := by
  unfold fX2_expect at h
  refine r_aload_n 0 dX2_expect_0 rfl rfl ?_
  obtain ⟨S21, hS21, h⟩ := b1_some h
  refine r_callVv (k := 61) (rest := []) (by omega) (mX2_advance hS21) sX_61 rfl rfl cb_X2_advance ml_X2_48 im_X2_advance se_X2_advance rfl rfl (Nat.le_of_ble_eq_true rfl) dX2_expect_1 ?_
  refine r_aload_n 0 dX2_expect_4 rfl rfl ?_
  refine r_getI (k := 61) (j := 2) sX_61 rfl fl_X2_17 dX2_expect_5 ?_
  refine r_iconst (v := 1) dX2_expect_8 rfl ?_
  refine r_icmp_ne 18 dX2_expect_9 (by decide) (fun c27 => ?_) (fun c27 => ?_)
  · rw [if_neg c27] at h
    refine r_aload_n 0 dX2_expect_18 rfl rfl ?_
    refine r_getI (k := 61) (j := 2) sX_61 rfl fl_X2_17 dX2_expect_19 ?_
    refine r_iload_n 1 dX2_expect_22 rfl rfl ?_
    refine r_icmp_eq 34 dX2_expect_23 (by decide) (fun c24 => ?_) (fun c24 => ?_)
    · rw [if_pos c24] at h
      refine r_iconst (v := 1) dX2_expect_34 rfl ?_
      refine r_goto 39 dX2_expect_35 (by decide) ?_
      obtain rfl := Option.some.inj h
      exact r_zreturn rfl (by decide) dX2_expect_39 (hp)
    · rw [if_neg c24] at h
      refine r_aload_n 0 dX2_expect_26 rfl rfl ?_
      refine r_iconst (v := 2) dX2_expect_27 rfl ?_
      obtain ⟨q22, hq22, h⟩ := b1_some h
      refine r_callVi (k := 61) (rest := []) (by omega) (mX2_fail hq22) sX_61 rfl rfl cb_X2_fail ml_X2_66 im_X2_fail se_X2_fail rfl rfl (Nat.le_of_ble_eq_true rfl) dX2_expect_28 ?_
      refine r_if_eq 38 dX2_expect_31 (by decide) (fun c23 => ?_) (fun c23 => ?_)
      · rw [if_pos c23] at h
        refine r_iconst (v := 0) dX2_expect_38 rfl ?_
        obtain rfl := Option.some.inj h
        exact r_zreturn rfl (by decide) dX2_expect_39 (hp)
      · rw [if_neg c23] at h
        refine r_iconst (v := 1) dX2_expect_34 rfl ?_
        refine r_goto 39 dX2_expect_35 (by decide) ?_
        obtain rfl := Option.some.inj h
        exact r_zreturn rfl (by decide) dX2_expect_39 (hp)
  · rw [if_pos c27] at h
    refine r_aload_n 0 dX2_expect_12 rfl rfl ?_
    refine r_iconst (v := 1) dX2_expect_13 rfl ?_
    obtain ⟨q25, hq25, h⟩ := b1_some h
    refine r_callVi (k := 61) (rest := []) (by omega) (mX2_fail hq25) sX_61 rfl rfl cb_X2_fail ml_X2_66 im_X2_fail se_X2_fail rfl rfl (Nat.le_of_ble_eq_true rfl) dX2_expect_14 ?_
    obtain ⟨z26, hz26, h⟩ := b1_some h
    obtain ⟨ez26, nz26⟩ := bz_some hz26
    rw [ez26] at h
    obtain rfl := Option.some.inj h
    exact r_zreturn rfl nz26 dX2_expect_17 (hp)
theorem mX2_expect {G : Gx} {S : St} {v1 : Int32} {o : (Int32 × St)}  (h : fX2_expect S v1 = some o) : MR_ G shX 1 yX2_expect cX2_expect 2 (some .boolean) [.ref (ad_ G 61), .int v1] S (PI_ o.1 o.2) := MR_of cb_X2_expect (Nat.le_of_ble_eq_true rfl) [(0, .ref (ad_ G 61)), (1, .int v1)] rfl (tX2_expect  h ⟨rfl, rfl⟩)
set_option maxRecDepth 100000 in
set_option maxHeartbeats 4000000 in
theorem tX2_expectNumber {G : Gx} {post : Option Value → St → Prop} {S : St} {v1 : Int32} {v2 : Int32} {o : (Int32 × St)}  (h : fX2_expectNumber S v1 v2 = some o) (hp : post (some (.int o.1)) o.2) : Rn G shX 2 yX2_expectNumber cX2_expectNumber 3 (some .boolean) 0 [(0, .ref (ad_ G 61)), (1, .int v1), (2, .int v2)] [] S post := by
  unfold fX2_expectNumber at h
  refine r_aload_n 0 dX2_expectNumber_0 rfl rfl ?_
  refine r_iconst (v := 3) dX2_expectNumber_1 rfl ?_
  obtain ⟨q21, hq21, h⟩ := b1_some h
  refine r_callVi (k := 61) (rest := []) (by omega) (mX2_expect hq21) sX_61 rfl rfl cb_X2_expect ml_X2_70 im_X2_expect se_X2_expect rfl rfl (Nat.le_of_ble_eq_true rfl) dX2_expectNumber_2 ?_
  refine r_if_eq 32 dX2_expectNumber_5 (by decide) (fun c26 => ?_) (fun c26 => ?_)
  · rw [if_pos c26] at h
    refine r_iconst (v := 0) dX2_expectNumber_32 rfl ?_
    obtain rfl := Option.some.inj h
    exact r_zreturn rfl (by decide) dX2_expectNumber_33 (hp)
  · rw [if_neg c26] at h
    refine r_aload_n 0 dX2_expectNumber_8 rfl rfl ?_
    refine r_getI (k := 61) (j := 3) sX_61 rfl fl_X2_20 dX2_expectNumber_9 ?_
    refine r_iload_n 1 dX2_expectNumber_12 rfl rfl ?_
    refine r_iload_n 2 dX2_expectNumber_13 rfl rfl ?_
    obtain ⟨x22, hx22, h⟩ := b1_some h
    refine r_callSNi (rest := []) (by omega) (mX11_within hx22) cb_X11_within (by decide) sm_X11_within rfl rfl (Nat.le_of_ble_eq_true rfl) dX2_expectNumber_14 ?_
    refine r_if_ne 28 dX2_expectNumber_17 (by decide) (fun c25 => ?_) (fun c25 => ?_)
    · rw [if_neg c25] at h
      refine r_iconst (v := 1) dX2_expectNumber_28 rfl ?_
      refine r_goto 33 dX2_expectNumber_29 (by decide) ?_
      obtain rfl := Option.some.inj h
      exact r_zreturn rfl (by decide) dX2_expectNumber_33 (hp)
    · rw [if_pos c25] at h
      refine r_aload_n 0 dX2_expectNumber_20 rfl rfl ?_
      refine r_iconst (v := 3) dX2_expectNumber_21 rfl ?_
      obtain ⟨q23, hq23, h⟩ := b1_some h
      refine r_callVi (k := 61) (rest := []) (by omega) (mX2_fail hq23) sX_61 rfl rfl cb_X2_fail ml_X2_66 im_X2_fail se_X2_fail rfl rfl (Nat.le_of_ble_eq_true rfl) dX2_expectNumber_22 ?_
      refine r_if_eq 32 dX2_expectNumber_25 (by decide) (fun c24 => ?_) (fun c24 => ?_)
      · rw [if_pos c24] at h
        refine r_iconst (v := 0) dX2_expectNumber_32 rfl ?_
        obtain rfl := Option.some.inj h
        exact r_zreturn rfl (by decide) dX2_expectNumber_33 (hp)
      · rw [if_neg c24] at h
        refine r_iconst (v := 1) dX2_expectNumber_28 rfl ?_
        refine r_goto 33 dX2_expectNumber_29 (by decide) ?_
        obtain rfl := Option.some.inj h
        exact r_zreturn rfl (by decide) dX2_expectNumber_33 (hp)
theorem mX2_expectNumber {G : Gx} {S : St} {v1 : Int32} {v2 : Int32} {o : (Int32 × St)}  (h : fX2_expectNumber S v1 v2 = some o) : MR_ G shX 2 yX2_expectNumber cX2_expectNumber 3 (some .boolean) [.ref (ad_ G 61), .int v1, .int v2] S (PI_ o.1 o.2) := MR_of cb_X2_expectNumber (Nat.le_of_ble_eq_true rfl) [(0, .ref (ad_ G 61)), (1, .int v1), (2, .int v2)] rfl (tX2_expectNumber  h ⟨rfl, rfl⟩)
set_option maxRecDepth 100000 in
set_option maxHeartbeats 4000000 in
theorem tX3_hasStamp {G : Gx} {post : Option Value → St → Prop} {k0 : Nat} {S : St} {v1 : Int32} {o : Int32} (hk0 : IsLw k0) (h : fX3_hasStamp k0 S v1 = some o) (hp : post (some (.int o)) S) : Rn G shX 0 yX3_hasStamp cX3_hasStamp 2 (some .boolean) 0 [(0, .ref (ad_ G k0)), (1, .int v1)] [] S post := by
  unfold fX3_hasStamp at h
  refine r_aload_n 0 dX3_hasStamp_0 rfl rfl ?_
  refine r_getI (k := k0) (j := 7) hk0.1 rfl fl_X3_34 dX3_hasStamp_1 ?_
  refine r_iload_n 1 dX3_hasStamp_4 rfl rfl ?_
  refine r_ishr dX3_hasStamp_5 ?_
  refine r_iconst (v := 1) dX3_hasStamp_6 rfl ?_
  refine r_iand dX3_hasStamp_7 ?_
  refine r_iconst (v := 1) dX3_hasStamp_8 rfl ?_
  refine r_icmp_ne 16 dX3_hasStamp_9 (by decide) (fun c21 => ?_) (fun c21 => ?_)
  · rw [if_neg c21] at h
    refine r_iconst (v := 0) dX3_hasStamp_16 rfl ?_
    obtain rfl := Option.some.inj h
    exact r_zreturn rfl (by decide) dX3_hasStamp_17 (hp)
  · rw [if_pos c21] at h
    refine r_iconst (v := 1) dX3_hasStamp_12 rfl ?_
    refine r_goto 17 dX3_hasStamp_13 (by decide) ?_
    obtain rfl := Option.some.inj h
    exact r_zreturn rfl (by decide) dX3_hasStamp_17 (hp)
theorem mX3_hasStamp {G : Gx} {k0 : Nat} {S : St} {v1 : Int32} {o : Int32} (hk0 : IsLw k0) (h : fX3_hasStamp k0 S v1 = some o) : MR_ G shX 0 yX3_hasStamp cX3_hasStamp 2 (some .boolean) [.ref (ad_ G k0), .int v1] S (PI_ o S) := MR_of cb_X3_hasStamp (Nat.le_of_ble_eq_true rfl) [(0, .ref (ad_ G k0)), (1, .int v1)] rfl (tX3_hasStamp hk0 h ⟨rfl, rfl⟩)
set_option maxRecDepth 100000 in
set_option maxHeartbeats 4000000 in
theorem tX3_tellStamp {G : Gx} {post : Option Value → St → Prop} {k0 : Nat} {S : St} {v1 : Int32} {v2 : Int32} {v3 : Int32} {o : St} (hk0 : IsLw k0) (h : fX3_tellStamp k0 S v1 v2 v3 = some o) (hp : post none o) : Rn G shX 0 yX3_tellStamp cX3_tellStamp 4 none 0 [(0, .ref (ad_ G k0)), (1, .int v1), (2, .int v2), (3, .int v3)] [] S post := by
  unfold fX3_tellStamp at h
  refine r_aload_n 0 dX3_tellStamp_0 rfl rfl ?_
  refine r_getC (k := k0) (j := 0) (r := k0 + 1) hk0.1 rfl fl_X3_9 dX3_tellStamp_1 ?_
  refine r_iload_n 1 dX3_tellStamp_4 rfl rfl ?_
  refine r_iload_n 2 dX3_tellStamp_5 rfl rfl ?_
  obtain ⟨S21, hS21, h⟩ := b1_some h
  refine r_iastore hk0.2.1 hS21 dX3_tellStamp_6 ?_
  refine r_aload_n 0 dX3_tellStamp_7 rfl rfl ?_
  refine r_getC (k := k0) (j := 1) (r := k0 + 2) hk0.1 rfl fl_X3_15 dX3_tellStamp_8 ?_
  refine r_iload_n 1 dX3_tellStamp_11 rfl rfl ?_
  refine r_iload_n 3 dX3_tellStamp_12 rfl rfl ?_
  obtain ⟨S22, hS22, h⟩ := b1_some h
  refine r_iastore hk0.2.2.1 hS22 dX3_tellStamp_13 ?_
  refine r_aload_n 0 dX3_tellStamp_14 rfl rfl ?_
  refine r_dup dX3_tellStamp_15 rfl ?_
  refine r_getI (k := k0) (j := 7) hk0.1 rfl fl_X3_34 dX3_tellStamp_16 ?_
  refine r_iconst (v := 1) dX3_tellStamp_19 rfl ?_
  refine r_iload_n 1 dX3_tellStamp_20 rfl rfl ?_
  refine r_ishl dX3_tellStamp_21 ?_
  refine r_ior dX3_tellStamp_22 ?_
  obtain ⟨S23, hS23, h⟩ := b1_some h
  refine r_setI (k := k0) (j := 7) hk0.1 rfl pf_X3_34 hS23 dX3_tellStamp_23 ?_
  obtain rfl := Option.some.inj h
  exact r_return rfl dX3_tellStamp_26 (hp)
theorem mX3_tellStamp {G : Gx} {k0 : Nat} {S : St} {v1 : Int32} {v2 : Int32} {v3 : Int32} {o : St} (hk0 : IsLw k0) (h : fX3_tellStamp k0 S v1 v2 v3 = some o) : MR_ G shX 0 yX3_tellStamp cX3_tellStamp 4 none [.ref (ad_ G k0), .int v1, .int v2, .int v3] S (PV_ o) := MR_of cb_X3_tellStamp (Nat.le_of_ble_eq_true rfl) [(0, .ref (ad_ G k0)), (1, .int v1), (2, .int v2), (3, .int v3)] rfl (tX3_tellStamp hk0 h ⟨rfl, rfl⟩)
set_option maxRecDepth 100000 in
set_option maxHeartbeats 4000000 in
theorem tX2_readStamp {G : Gx} {post : Option Value → St → Prop} {k1 : Nat} {S : St} {o : (Int32 × St)} (hk1 : IsLw k1) (h : fX2_readStamp k1 S = some o) (hp : post (some (.int o.1)) o.2) : Rn G shX 3 yX2_readStamp cX2_readStamp 4 (some .boolean) 0 [(0, .ref (ad_ G 61)), (1, .ref (ad_ G k1))] [] S post := by
  unfold fX2_readStamp at h
  refine r_aload_n 0 dX2_readStamp_0 rfl rfl ?_
  refine r_iconst (v := 0) dX2_readStamp_1 rfl ?_
  refine r_bipush (v := 7) dX2_readStamp_2 rfl ?_
  obtain ⟨q21, hq21, h⟩ := b1_some h
  refine r_callVi (k := 61) (rest := []) (by omega) (mX2_expectNumber hq21) sX_61 rfl rfl cb_X2_expectNumber ml_X2_76 im_X2_expectNumber se_X2_expectNumber rfl rfl (Nat.le_of_ble_eq_true rfl) dX2_readStamp_4 ?_
  refine r_if_ne 12 dX2_readStamp_7 (by decide) (fun c31 => ?_) (fun c31 => ?_)
  · rw [if_neg c31] at h
    refine r_aload_n 0 dX2_readStamp_12 rfl rfl ?_
    refine r_getI (k := 61) (j := 3) sX_61 rfl fl_X2_20 dX2_readStamp_13 ?_
    refine r_istore_n (i := 2) [(0, .ref (ad_ G 61)), (1, .ref (ad_ G k1)), (2, .int (gI_ q21.2 61 3))] [1, 2, 0] dX2_readStamp_16 rfl (by decide) rfl ?_
    refine r_aload_n 1 dX2_readStamp_17 rfl rfl ?_
    refine r_iload_n 2 dX2_readStamp_18 rfl rfl ?_
    obtain ⟨x22, hx22, h⟩ := b1_some h
    refine r_callVi (k := k1) (rest := []) (by omega) (mX3_hasStamp hk1 hx22) hk1.1 rfl rfl cb_X3_hasStamp ml_X2_80 im_X3_hasStamp se_X3_hasStamp rfl rfl (Nat.le_of_ble_eq_true rfl) dX2_readStamp_19 ?_
    refine r_if_eq 31 dX2_readStamp_22 (by decide) (fun c30 => ?_) (fun c30 => ?_)
    · rw [if_pos c30] at h
      refine r_aload_n 0 dX2_readStamp_31 rfl rfl ?_
      refine r_sipush (v := 1800) dX2_readStamp_32 rfl ?_
      refine r_sipush (v := 2000) dX2_readStamp_35 rfl ?_
      obtain ⟨q23, hq23, h⟩ := b1_some h
      refine r_callVi (k := 61) (rest := []) (by omega) (mX2_expectNumber hq23) sX_61 rfl rfl cb_X2_expectNumber ml_X2_76 im_X2_expectNumber se_X2_expectNumber rfl rfl (Nat.le_of_ble_eq_true rfl) dX2_readStamp_38 ?_
      refine r_if_ne 46 dX2_readStamp_41 (by decide) (fun c27 => ?_) (fun c27 => ?_)
      · rw [if_neg c27] at h
        refine r_aload_n 0 dX2_readStamp_46 rfl rfl ?_
        refine r_getI (k := 61) (j := 3) sX_61 rfl fl_X2_20 dX2_readStamp_47 ?_
        refine r_istore_n (i := 3) [(0, .ref (ad_ G 61)), (1, .ref (ad_ G k1)), (2, .int (gI_ q21.2 61 3)), (3, .int (gI_ q23.2 61 3))] [1, 2, 3, 0] dX2_readStamp_50 rfl (by decide) rfl ?_
        refine r_aload_n 0 dX2_readStamp_51 rfl rfl ?_
        refine r_iload_n 3 dX2_readStamp_52 rfl rfl ?_
        refine r_sipush (v := 2000) dX2_readStamp_53 rfl ?_
        obtain ⟨q24, hq24, h⟩ := b1_some h
        refine r_callVi (k := 61) (rest := []) (by omega) (mX2_expectNumber hq24) sX_61 rfl rfl cb_X2_expectNumber ml_X2_76 im_X2_expectNumber se_X2_expectNumber rfl rfl (Nat.le_of_ble_eq_true rfl) dX2_readStamp_56 ?_
        refine r_if_ne 64 dX2_readStamp_59 (by decide) (fun c26 => ?_) (fun c26 => ?_)
        · rw [if_neg c26] at h
          refine r_aload_n 1 dX2_readStamp_64 rfl rfl ?_
          refine r_iload_n 2 dX2_readStamp_65 rfl rfl ?_
          refine r_iload_n 3 dX2_readStamp_66 rfl rfl ?_
          refine r_aload_n 0 dX2_readStamp_67 rfl rfl ?_
          refine r_getI (k := 61) (j := 3) sX_61 rfl fl_X2_20 dX2_readStamp_68 ?_
          obtain ⟨S25, hS25, h⟩ := b1_some h
          refine r_callVv (k := k1) (rest := []) (by omega) (mX3_tellStamp hk1 hS25) hk1.1 rfl rfl cb_X3_tellStamp ml_X2_83 im_X3_tellStamp se_X3_tellStamp rfl rfl (Nat.le_of_ble_eq_true rfl) dX2_readStamp_71 ?_
          refine r_iconst (v := 1) dX2_readStamp_74 rfl ?_
          obtain rfl := Option.some.inj h
          exact r_zreturn rfl (by decide) dX2_readStamp_75 (hp)
        · rw [if_pos c26] at h
          refine r_iconst (v := 0) dX2_readStamp_62 rfl ?_
          obtain rfl := Option.some.inj h
          exact r_zreturn rfl (by decide) dX2_readStamp_63 (hp)
      · rw [if_pos c27] at h
        refine r_iconst (v := 0) dX2_readStamp_44 rfl ?_
        obtain rfl := Option.some.inj h
        exact r_zreturn rfl (by decide) dX2_readStamp_45 (hp)
    · rw [if_neg c30] at h
      refine r_aload_n 0 dX2_readStamp_25 rfl rfl ?_
      refine r_iconst (v := 4) dX2_readStamp_26 rfl ?_
      obtain ⟨q28, hq28, h⟩ := b1_some h
      refine r_callVi (k := 61) (rest := []) (by omega) (mX2_fail hq28) sX_61 rfl rfl cb_X2_fail ml_X2_66 im_X2_fail se_X2_fail rfl rfl (Nat.le_of_ble_eq_true rfl) dX2_readStamp_27 ?_
      obtain ⟨z29, hz29, h⟩ := b1_some h
      obtain ⟨ez29, nz29⟩ := bz_some hz29
      rw [ez29] at h
      obtain rfl := Option.some.inj h
      exact r_zreturn rfl nz29 dX2_readStamp_30 (hp)
  · rw [if_pos c31] at h
    refine r_iconst (v := 0) dX2_readStamp_10 rfl ?_
    obtain rfl := Option.some.inj h
    exact r_zreturn rfl (by decide) dX2_readStamp_11 (hp)
theorem mX2_readStamp {G : Gx} {k1 : Nat} {S : St} {o : (Int32 × St)} (hk1 : IsLw k1) (h : fX2_readStamp k1 S = some o) : MR_ G shX 3 yX2_readStamp cX2_readStamp 4 (some .boolean) [.ref (ad_ G 61), .ref (ad_ G k1)] S (PI_ o.1 o.2) := MR_of cb_X2_readStamp (Nat.le_of_ble_eq_true rfl) [(0, .ref (ad_ G 61)), (1, .ref (ad_ G k1))] rfl (tX2_readStamp hk1 h ⟨rfl, rfl⟩)
set_option maxRecDepth 100000 in
set_option maxHeartbeats 4000000 in
theorem tX3_tellBar {G : Gx} {post : Option Value → St → Prop} {k0 : Nat} {S : St} {v1 : Int32} {v2 : Int32} {o : St} (hk0 : IsLw k0) (h : fX3_tellBar k0 S v1 v2 = some o) (hp : post none o) : Rn G shX 0 yX3_tellBar cX3_tellBar 3 none 0 [(0, .ref (ad_ G k0)), (1, .int v1), (2, .int v2)] [] S post := by
  unfold fX3_tellBar at h
  refine r_aload_n 0 dX3_tellBar_0 rfl rfl ?_
  refine r_getC (k := k0) (j := 2) (r := k0 + 3) hk0.1 rfl fl_X3_18 dX3_tellBar_1 ?_
  refine r_iload_n 1 dX3_tellBar_4 rfl rfl ?_
  refine r_dup2_11 dX3_tellBar_5 rfl rfl ?_
  obtain ⟨x21, hx21, h⟩ := b1_some h
  refine r_iaload hk0.2.2.2.1 hx21 dX3_tellBar_6 ?_
  refine r_iconst (v := 1) dX3_tellBar_7 rfl ?_
  refine r_iload_n 2 dX3_tellBar_8 rfl rfl ?_
  refine r_ishl dX3_tellBar_9 ?_
  refine r_ior dX3_tellBar_10 ?_
  obtain ⟨S22, hS22, h⟩ := b1_some h
  refine r_iastore hk0.2.2.2.1 hS22 dX3_tellBar_11 ?_
  refine r_aload_n 0 dX3_tellBar_12 rfl rfl ?_
  refine r_getC (k := k0) (j := 2) (r := k0 + 3) hk0.1 rfl fl_X3_18 dX3_tellBar_13 ?_
  refine r_iload_n 2 dX3_tellBar_16 rfl rfl ?_
  refine r_dup2_11 dX3_tellBar_17 rfl rfl ?_
  obtain ⟨x23, hx23, h⟩ := b1_some h
  refine r_iaload hk0.2.2.2.1 hx23 dX3_tellBar_18 ?_
  refine r_iconst (v := 1) dX3_tellBar_19 rfl ?_
  refine r_iload_n 1 dX3_tellBar_20 rfl rfl ?_
  refine r_ishl dX3_tellBar_21 ?_
  refine r_ior dX3_tellBar_22 ?_
  obtain ⟨S24, hS24, h⟩ := b1_some h
  refine r_iastore hk0.2.2.2.1 hS24 dX3_tellBar_23 ?_
  obtain rfl := Option.some.inj h
  exact r_return rfl dX3_tellBar_24 (hp)
theorem mX3_tellBar {G : Gx} {k0 : Nat} {S : St} {v1 : Int32} {v2 : Int32} {o : St} (hk0 : IsLw k0) (h : fX3_tellBar k0 S v1 v2 = some o) : MR_ G shX 0 yX3_tellBar cX3_tellBar 3 none [.ref (ad_ G k0), .int v1, .int v2] S (PV_ o) := MR_of cb_X3_tellBar (Nat.le_of_ble_eq_true rfl) [(0, .ref (ad_ G k0)), (1, .int v1), (2, .int v2)] rfl (tX3_tellBar hk0 h ⟨rfl, rfl⟩)
set_option maxRecDepth 100000 in
set_option maxHeartbeats 4000000 in
theorem tX2_readBar {G : Gx} {post : Option Value → St → Prop} {k1 : Nat} {S : St} {o : (Int32 × St)} (hk1 : IsLw k1) (h : fX2_readBar k1 S = some o) (hp : post (some (.int o.1)) o.2) : Rn G shX 3 yX2_readBar cX2_readBar 3 (some .boolean) 0 [(0, .ref (ad_ G 61)), (1, .ref (ad_ G k1))] [] S post := by
  unfold fX2_readBar at h
  refine r_aload_n 0 dX2_readBar_0 rfl rfl ?_
  refine r_iconst (v := 0) dX2_readBar_1 rfl ?_
  refine r_bipush (v := 7) dX2_readBar_2 rfl ?_
  obtain ⟨q21, hq21, h⟩ := b1_some h
  refine r_callVi (k := 61) (rest := []) (by omega) (mX2_expectNumber hq21) sX_61 rfl rfl cb_X2_expectNumber ml_X2_76 im_X2_expectNumber se_X2_expectNumber rfl rfl (Nat.le_of_ble_eq_true rfl) dX2_readBar_4 ?_
  refine r_if_ne 12 dX2_readBar_7 (by decide) (fun c28 => ?_) (fun c28 => ?_)
  · rw [if_neg c28] at h
    refine r_aload_n 0 dX2_readBar_12 rfl rfl ?_
    refine r_getI (k := 61) (j := 3) sX_61 rfl fl_X2_20 dX2_readBar_13 ?_
    refine r_istore_n (i := 2) [(0, .ref (ad_ G 61)), (1, .ref (ad_ G k1)), (2, .int (gI_ q21.2 61 3))] [1, 2, 0] dX2_readBar_16 rfl (by decide) rfl ?_
    refine r_aload_n 0 dX2_readBar_17 rfl rfl ?_
    refine r_iconst (v := 0) dX2_readBar_18 rfl ?_
    refine r_bipush (v := 7) dX2_readBar_19 rfl ?_
    obtain ⟨q22, hq22, h⟩ := b1_some h
    refine r_callVi (k := 61) (rest := []) (by omega) (mX2_expectNumber hq22) sX_61 rfl rfl cb_X2_expectNumber ml_X2_76 im_X2_expectNumber se_X2_expectNumber rfl rfl (Nat.le_of_ble_eq_true rfl) dX2_readBar_21 ?_
    refine r_if_ne 29 dX2_readBar_24 (by decide) (fun c27 => ?_) (fun c27 => ?_)
    · rw [if_neg c27] at h
      refine r_aload_n 0 dX2_readBar_29 rfl rfl ?_
      refine r_getI (k := 61) (j := 3) sX_61 rfl fl_X2_20 dX2_readBar_30 ?_
      refine r_iload_n 2 dX2_readBar_33 rfl rfl ?_
      refine r_icmp_ne 43 dX2_readBar_34 (by decide) (fun c26 => ?_) (fun c26 => ?_)
      · rw [if_neg c26] at h
        refine r_aload_n 1 dX2_readBar_43 rfl rfl ?_
        refine r_iload_n 2 dX2_readBar_44 rfl rfl ?_
        refine r_aload_n 0 dX2_readBar_45 rfl rfl ?_
        refine r_getI (k := 61) (j := 3) sX_61 rfl fl_X2_20 dX2_readBar_46 ?_
        obtain ⟨S23, hS23, h⟩ := b1_some h
        refine r_callVv (k := k1) (rest := []) (by omega) (mX3_tellBar hk1 hS23) hk1.1 rfl rfl cb_X3_tellBar ml_X2_87 im_X3_tellBar se_X3_tellBar rfl rfl (Nat.le_of_ble_eq_true rfl) dX2_readBar_49 ?_
        refine r_iconst (v := 1) dX2_readBar_52 rfl ?_
        obtain rfl := Option.some.inj h
        exact r_zreturn rfl (by decide) dX2_readBar_53 (hp)
      · rw [if_pos c26] at h
        refine r_aload_n 0 dX2_readBar_37 rfl rfl ?_
        refine r_iconst (v := 3) dX2_readBar_38 rfl ?_
        obtain ⟨q24, hq24, h⟩ := b1_some h
        refine r_callVi (k := 61) (rest := []) (by omega) (mX2_fail hq24) sX_61 rfl rfl cb_X2_fail ml_X2_66 im_X2_fail se_X2_fail rfl rfl (Nat.le_of_ble_eq_true rfl) dX2_readBar_39 ?_
        obtain ⟨z25, hz25, h⟩ := b1_some h
        obtain ⟨ez25, nz25⟩ := bz_some hz25
        rw [ez25] at h
        obtain rfl := Option.some.inj h
        exact r_zreturn rfl nz25 dX2_readBar_42 (hp)
    · rw [if_pos c27] at h
      refine r_iconst (v := 0) dX2_readBar_27 rfl ?_
      obtain rfl := Option.some.inj h
      exact r_zreturn rfl (by decide) dX2_readBar_28 (hp)
  · rw [if_pos c28] at h
    refine r_iconst (v := 0) dX2_readBar_10 rfl ?_
    obtain rfl := Option.some.inj h
    exact r_zreturn rfl (by decide) dX2_readBar_11 (hp)
theorem mX2_readBar {G : Gx} {k1 : Nat} {S : St} {o : (Int32 × St)} (hk1 : IsLw k1) (h : fX2_readBar k1 S = some o) : MR_ G shX 3 yX2_readBar cX2_readBar 3 (some .boolean) [.ref (ad_ G 61), .ref (ad_ G k1)] S (PI_ o.1 o.2) := MR_of cb_X2_readBar (Nat.le_of_ble_eq_true rfl) [(0, .ref (ad_ G 61)), (1, .ref (ad_ G k1))] rfl (tX2_readBar hk1 h ⟨rfl, rfl⟩)
set_option maxRecDepth 100000 in
set_option maxHeartbeats 4000000 in
theorem tX3_tellLimit {G : Gx} {post : Option Value → St → Prop} {k0 : Nat} {S : St} {v1 : Int32} {o : St} (hk0 : IsLw k0) (h : fX3_tellLimit k0 S v1 = some o) (hp : post none o) : Rn G shX 0 yX3_tellLimit cX3_tellLimit 2 none 0 [(0, .ref (ad_ G k0)), (1, .int v1)] [] S post := by
  unfold fX3_tellLimit at h
  refine r_aload_n 0 dX3_tellLimit_0 rfl rfl ?_
  refine r_iload_n 1 dX3_tellLimit_1 rfl rfl ?_
  obtain ⟨S21, hS21, h⟩ := b1_some h
  refine r_setI (k := k0) (j := 5) hk0.1 rfl pf_X3_27 hS21 dX3_tellLimit_2 ?_
  refine r_aload_n 0 dX3_tellLimit_5 rfl rfl ?_
  refine r_iconst (v := 1) dX3_tellLimit_6 rfl ?_
  obtain ⟨S22, hS22, h⟩ := b1_some h
  refine r_setZ (k := k0) (j := 9) hk0.1 rfl pf_X3_40 ⟨rfl, rfl⟩ hS22 dX3_tellLimit_7 ?_
  obtain rfl := Option.some.inj h
  exact r_return rfl dX3_tellLimit_10 (hp)
theorem mX3_tellLimit {G : Gx} {k0 : Nat} {S : St} {v1 : Int32} {o : St} (hk0 : IsLw k0) (h : fX3_tellLimit k0 S v1 = some o) : MR_ G shX 0 yX3_tellLimit cX3_tellLimit 2 none [.ref (ad_ G k0), .int v1] S (PV_ o) := MR_of cb_X3_tellLimit (Nat.le_of_ble_eq_true rfl) [(0, .ref (ad_ G k0)), (1, .int v1)] rfl (tX3_tellLimit hk0 h ⟨rfl, rfl⟩)
set_option maxRecDepth 100000 in
set_option maxHeartbeats 4000000 in
theorem tX2_readLimit {G : Gx} {post : Option Value → St → Prop} {k1 : Nat} {S : St} {o : (Int32 × St)} (hk1 : IsLw k1) (h : fX2_readLimit k1 S = some o) (hp : post (some (.int o.1)) o.2) : Rn G shX 3 yX2_readLimit cX2_readLimit 2 (some .boolean) 0 [(0, .ref (ad_ G 61)), (1, .ref (ad_ G k1))] [] S post := by
  unfold fX2_readLimit at h
  refine r_aload_n 1 dX2_readLimit_0 rfl rfl ?_
  refine r_getI (k := k1) (j := 9) hk1.1 rfl fl_X2_91 dX2_readLimit_1 ?_
  refine r_if_eq 13 dX2_readLimit_4 (by decide) (fun c26 => ?_) (fun c26 => ?_)
  · rw [if_pos c26] at h
    refine r_aload_n 0 dX2_readLimit_13 rfl rfl ?_
    refine r_iconst (v := 0) dX2_readLimit_14 rfl ?_
    refine r_bipush (v := 50) dX2_readLimit_15 rfl ?_
    obtain ⟨q21, hq21, h⟩ := b1_some h
    refine r_callVi (k := 61) (rest := []) (by omega) (mX2_expectNumber hq21) sX_61 rfl rfl cb_X2_expectNumber ml_X2_76 im_X2_expectNumber se_X2_expectNumber rfl rfl (Nat.le_of_ble_eq_true rfl) dX2_readLimit_17 ?_
    refine r_if_ne 25 dX2_readLimit_20 (by decide) (fun c23 => ?_) (fun c23 => ?_)
    · rw [if_neg c23] at h
      refine r_aload_n 1 dX2_readLimit_25 rfl rfl ?_
      refine r_aload_n 0 dX2_readLimit_26 rfl rfl ?_
      refine r_getI (k := 61) (j := 3) sX_61 rfl fl_X2_20 dX2_readLimit_27 ?_
      obtain ⟨S22, hS22, h⟩ := b1_some h
      refine r_callVv (k := k1) (rest := []) (by omega) (mX3_tellLimit hk1 hS22) hk1.1 rfl rfl cb_X3_tellLimit ml_X2_95 im_X3_tellLimit se_X3_tellLimit rfl rfl (Nat.le_of_ble_eq_true rfl) dX2_readLimit_30 ?_
      refine r_iconst (v := 1) dX2_readLimit_33 rfl ?_
      obtain rfl := Option.some.inj h
      exact r_zreturn rfl (by decide) dX2_readLimit_34 (hp)
    · rw [if_pos c23] at h
      refine r_iconst (v := 0) dX2_readLimit_23 rfl ?_
      obtain rfl := Option.some.inj h
      exact r_zreturn rfl (by decide) dX2_readLimit_24 (hp)
  · rw [if_neg c26] at h
    refine r_aload_n 0 dX2_readLimit_7 rfl rfl ?_
    refine r_iconst (v := 4) dX2_readLimit_8 rfl ?_
    obtain ⟨q24, hq24, h⟩ := b1_some h
    refine r_callVi (k := 61) (rest := []) (by omega) (mX2_fail hq24) sX_61 rfl rfl cb_X2_fail ml_X2_66 im_X2_fail se_X2_fail rfl rfl (Nat.le_of_ble_eq_true rfl) dX2_readLimit_9 ?_
    obtain ⟨z25, hz25, h⟩ := b1_some h
    obtain ⟨ez25, nz25⟩ := bz_some hz25
    rw [ez25] at h
    obtain rfl := Option.some.inj h
    exact r_zreturn rfl nz25 dX2_readLimit_12 (hp)
theorem mX2_readLimit {G : Gx} {k1 : Nat} {S : St} {o : (Int32 × St)} (hk1 : IsLw k1) (h : fX2_readLimit k1 S = some o) : MR_ G shX 3 yX2_readLimit cX2_readLimit 2 (some .boolean) [.ref (ad_ G 61), .ref (ad_ G k1)] S (PI_ o.1 o.2) := MR_of cb_X2_readLimit (Nat.le_of_ble_eq_true rfl) [(0, .ref (ad_ G 61)), (1, .ref (ad_ G k1))] rfl (tX2_readLimit hk1 h ⟨rfl, rfl⟩)
set_option maxRecDepth 100000 in
set_option maxHeartbeats 4000000 in
theorem tX3_hasLeast {G : Gx} {post : Option Value → St → Prop} {k0 : Nat} {S : St} {v1 : Int32} {o : Int32} (hk0 : IsLw k0) (h : fX3_hasLeast k0 S v1 = some o) (hp : post (some (.int o)) S) : Rn G shX 0 yX3_hasLeast cX3_hasLeast 2 (some .boolean) 0 [(0, .ref (ad_ G k0)), (1, .int v1)] [] S post := by
  unfold fX3_hasLeast at h
  refine r_aload_n 0 dX3_hasLeast_0 rfl rfl ?_
  refine r_getI (k := k0) (j := 8) hk0.1 rfl fl_X3_37 dX3_hasLeast_1 ?_
  refine r_iload_n 1 dX3_hasLeast_4 rfl rfl ?_
  refine r_ishr dX3_hasLeast_5 ?_
  refine r_iconst (v := 1) dX3_hasLeast_6 rfl ?_
  refine r_iand dX3_hasLeast_7 ?_
  refine r_iconst (v := 1) dX3_hasLeast_8 rfl ?_
  refine r_icmp_ne 16 dX3_hasLeast_9 (by decide) (fun c21 => ?_) (fun c21 => ?_)
  · rw [if_neg c21] at h
    refine r_iconst (v := 0) dX3_hasLeast_16 rfl ?_
    obtain rfl := Option.some.inj h
    exact r_zreturn rfl (by decide) dX3_hasLeast_17 (hp)
  · rw [if_pos c21] at h
    refine r_iconst (v := 1) dX3_hasLeast_12 rfl ?_
    refine r_goto 17 dX3_hasLeast_13 (by decide) ?_
    obtain rfl := Option.some.inj h
    exact r_zreturn rfl (by decide) dX3_hasLeast_17 (hp)
theorem mX3_hasLeast {G : Gx} {k0 : Nat} {S : St} {v1 : Int32} {o : Int32} (hk0 : IsLw k0) (h : fX3_hasLeast k0 S v1 = some o) : MR_ G shX 0 yX3_hasLeast cX3_hasLeast 2 (some .boolean) [.ref (ad_ G k0), .int v1] S (PI_ o S) := MR_of cb_X3_hasLeast (Nat.le_of_ble_eq_true rfl) [(0, .ref (ad_ G k0)), (1, .int v1)] rfl (tX3_hasLeast hk0 h ⟨rfl, rfl⟩)
set_option maxRecDepth 100000 in
set_option maxHeartbeats 4000000 in
theorem tX3_tellLeast {G : Gx} {post : Option Value → St → Prop} {k0 : Nat} {S : St} {v1 : Int32} {v2 : Int32} {o : St} (hk0 : IsLw k0) (h : fX3_tellLeast k0 S v1 v2 = some o) (hp : post none o) : Rn G shX 0 yX3_tellLeast cX3_tellLeast 3 none 0 [(0, .ref (ad_ G k0)), (1, .int v1), (2, .int v2)] [] S post := by
  unfold fX3_tellLeast at h
  refine r_aload_n 0 dX3_tellLeast_0 rfl rfl ?_
  refine r_getC (k := k0) (j := 3) (r := k0 + 4) hk0.1 rfl fl_X3_21 dX3_tellLeast_1 ?_
  refine r_iload_n 1 dX3_tellLeast_4 rfl rfl ?_
  refine r_iload_n 2 dX3_tellLeast_5 rfl rfl ?_
  obtain ⟨S21, hS21, h⟩ := b1_some h
  refine r_iastore hk0.2.2.2.2.1 hS21 dX3_tellLeast_6 ?_
  refine r_aload_n 0 dX3_tellLeast_7 rfl rfl ?_
  refine r_dup dX3_tellLeast_8 rfl ?_
  refine r_getI (k := k0) (j := 8) hk0.1 rfl fl_X3_37 dX3_tellLeast_9 ?_
  refine r_iconst (v := 1) dX3_tellLeast_12 rfl ?_
  refine r_iload_n 1 dX3_tellLeast_13 rfl rfl ?_
  refine r_ishl dX3_tellLeast_14 ?_
  refine r_ior dX3_tellLeast_15 ?_
  obtain ⟨S22, hS22, h⟩ := b1_some h
  refine r_setI (k := k0) (j := 8) hk0.1 rfl pf_X3_37 hS22 dX3_tellLeast_16 ?_
  obtain rfl := Option.some.inj h
  exact r_return rfl dX3_tellLeast_19 (hp)
theorem mX3_tellLeast {G : Gx} {k0 : Nat} {S : St} {v1 : Int32} {v2 : Int32} {o : St} (hk0 : IsLw k0) (h : fX3_tellLeast k0 S v1 v2 = some o) : MR_ G shX 0 yX3_tellLeast cX3_tellLeast 3 none [.ref (ad_ G k0), .int v1, .int v2] S (PV_ o) := MR_of cb_X3_tellLeast (Nat.le_of_ble_eq_true rfl) [(0, .ref (ad_ G k0)), (1, .int v1), (2, .int v2)] rfl (tX3_tellLeast hk0 h ⟨rfl, rfl⟩)
set_option maxRecDepth 100000 in
set_option maxHeartbeats 4000000 in
theorem tX2_readLeast {G : Gx} {post : Option Value → St → Prop} {k1 : Nat} {S : St} {o : (Int32 × St)} (hk1 : IsLw k1) (h : fX2_readLeast k1 S = some o) (hp : post (some (.int o.1)) o.2) : Rn G shX 3 yX2_readLeast cX2_readLeast 3 (some .boolean) 0 [(0, .ref (ad_ G 61)), (1, .ref (ad_ G k1))] [] S post := by
  unfold fX2_readLeast at h
  refine r_aload_n 0 dX2_readLeast_0 rfl rfl ?_
  refine r_iconst (v := 2) dX2_readLeast_1 rfl ?_
  obtain ⟨q21, hq21, h⟩ := b1_some h
  refine r_callVi (k := 61) (rest := []) (by omega) (mX2_expect hq21) sX_61 rfl rfl cb_X2_expect ml_X2_70 im_X2_expect se_X2_expect rfl rfl (Nat.le_of_ble_eq_true rfl) dX2_readLeast_2 ?_
  refine r_if_ne 10 dX2_readLeast_5 (by decide) (fun c29 => ?_) (fun c29 => ?_)
  · rw [if_neg c29] at h
    refine r_aload_n 0 dX2_readLeast_10 rfl rfl ?_
    refine r_getI (k := 61) (j := 3) sX_61 rfl fl_X2_20 dX2_readLeast_11 ?_
    refine r_istore_n (i := 2) [(0, .ref (ad_ G 61)), (1, .ref (ad_ G k1)), (2, .int (gI_ q21.2 61 3))] [1, 2, 0] dX2_readLeast_14 rfl (by decide) rfl ?_
    refine r_aload_n 1 dX2_readLeast_15 rfl rfl ?_
    refine r_iload_n 2 dX2_readLeast_16 rfl rfl ?_
    obtain ⟨x22, hx22, h⟩ := b1_some h
    refine r_callVi (k := k1) (rest := []) (by omega) (mX3_hasLeast hk1 hx22) hk1.1 rfl rfl cb_X3_hasLeast ml_X2_99 im_X3_hasLeast se_X3_hasLeast rfl rfl (Nat.le_of_ble_eq_true rfl) dX2_readLeast_17 ?_
    refine r_if_eq 29 dX2_readLeast_20 (by decide) (fun c28 => ?_) (fun c28 => ?_)
    · rw [if_pos c28] at h
      refine r_aload_n 0 dX2_readLeast_29 rfl rfl ?_
      refine r_iconst (v := 0) dX2_readLeast_30 rfl ?_
      refine r_iconst (v := 5) dX2_readLeast_31 rfl ?_
      obtain ⟨q23, hq23, h⟩ := b1_some h
      refine r_callVi (k := 61) (rest := []) (by omega) (mX2_expectNumber hq23) sX_61 rfl rfl cb_X2_expectNumber ml_X2_76 im_X2_expectNumber se_X2_expectNumber rfl rfl (Nat.le_of_ble_eq_true rfl) dX2_readLeast_32 ?_
      refine r_if_ne 40 dX2_readLeast_35 (by decide) (fun c25 => ?_) (fun c25 => ?_)
      · rw [if_neg c25] at h
        refine r_aload_n 1 dX2_readLeast_40 rfl rfl ?_
        refine r_iload_n 2 dX2_readLeast_41 rfl rfl ?_
        refine r_aload_n 0 dX2_readLeast_42 rfl rfl ?_
        refine r_getI (k := 61) (j := 3) sX_61 rfl fl_X2_20 dX2_readLeast_43 ?_
        obtain ⟨S24, hS24, h⟩ := b1_some h
        refine r_callVv (k := k1) (rest := []) (by omega) (mX3_tellLeast hk1 hS24) hk1.1 rfl rfl cb_X3_tellLeast ml_X2_102 im_X3_tellLeast se_X3_tellLeast rfl rfl (Nat.le_of_ble_eq_true rfl) dX2_readLeast_46 ?_
        refine r_iconst (v := 1) dX2_readLeast_49 rfl ?_
        obtain rfl := Option.some.inj h
        exact r_zreturn rfl (by decide) dX2_readLeast_50 (hp)
      · rw [if_pos c25] at h
        refine r_iconst (v := 0) dX2_readLeast_38 rfl ?_
        obtain rfl := Option.some.inj h
        exact r_zreturn rfl (by decide) dX2_readLeast_39 (hp)
    · rw [if_neg c28] at h
      refine r_aload_n 0 dX2_readLeast_23 rfl rfl ?_
      refine r_iconst (v := 4) dX2_readLeast_24 rfl ?_
      obtain ⟨q26, hq26, h⟩ := b1_some h
      refine r_callVi (k := 61) (rest := []) (by omega) (mX2_fail hq26) sX_61 rfl rfl cb_X2_fail ml_X2_66 im_X2_fail se_X2_fail rfl rfl (Nat.le_of_ble_eq_true rfl) dX2_readLeast_25 ?_
      obtain ⟨z27, hz27, h⟩ := b1_some h
      obtain ⟨ez27, nz27⟩ := bz_some hz27
      rw [ez27] at h
      obtain rfl := Option.some.inj h
      exact r_zreturn rfl nz27 dX2_readLeast_28 (hp)
  · rw [if_pos c29] at h
    refine r_iconst (v := 0) dX2_readLeast_8 rfl ?_
    obtain rfl := Option.some.inj h
    exact r_zreturn rfl (by decide) dX2_readLeast_9 (hp)
theorem mX2_readLeast {G : Gx} {k1 : Nat} {S : St} {o : (Int32 × St)} (hk1 : IsLw k1) (h : fX2_readLeast k1 S = some o) : MR_ G shX 3 yX2_readLeast cX2_readLeast 3 (some .boolean) [.ref (ad_ G 61), .ref (ad_ G k1)] S (PI_ o.1 o.2) := MR_of cb_X2_readLeast (Nat.le_of_ble_eq_true rfl) [(0, .ref (ad_ G 61)), (1, .ref (ad_ G k1))] rfl (tX2_readLeast hk1 h ⟨rfl, rfl⟩)
set_option maxRecDepth 100000 in
set_option maxHeartbeats 4000000 in
theorem tX3_hasSecond {G : Gx} {post : Option Value → St → Prop} {k0 : Nat} {S : St} {v1 : Int32} {o : Int32} (hk0 : IsLw k0) (h : fX3_hasSecond k0 S v1 = some o) (hp : post (some (.int o)) S) : Rn G shX 0 yX3_hasSecond cX3_hasSecond 2 (some .boolean) 0 [(0, .ref (ad_ G k0)), (1, .int v1)] [] S post := by
  unfold fX3_hasSecond at h
  refine r_aload_n 0 dX3_hasSecond_0 rfl rfl ?_
  refine r_getC (k := k0) (j := 4) (r := k0 + 5) hk0.1 rfl fl_X3_24 dX3_hasSecond_1 ?_
  refine r_iload_n 1 dX3_hasSecond_4 rfl rfl ?_
  obtain ⟨x21, hx21, h⟩ := b1_some h
  refine r_iaload hk0.2.2.2.2.2 hx21 dX3_hasSecond_5 ?_
  refine r_bipush (v := (-4)) dX3_hasSecond_6 rfl ?_
  refine r_icmp_eq 15 dX3_hasSecond_8 (by decide) (fun c22 => ?_) (fun c22 => ?_)
  · rw [if_pos c22] at h
    refine r_iconst (v := 0) dX3_hasSecond_15 rfl ?_
    obtain rfl := Option.some.inj h
    exact r_zreturn rfl (by decide) dX3_hasSecond_16 (hp)
  · rw [if_neg c22] at h
    refine r_iconst (v := 1) dX3_hasSecond_11 rfl ?_
    refine r_goto 16 dX3_hasSecond_12 (by decide) ?_
    obtain rfl := Option.some.inj h
    exact r_zreturn rfl (by decide) dX3_hasSecond_16 (hp)
theorem mX3_hasSecond {G : Gx} {k0 : Nat} {S : St} {v1 : Int32} {o : Int32} (hk0 : IsLw k0) (h : fX3_hasSecond k0 S v1 = some o) : MR_ G shX 0 yX3_hasSecond cX3_hasSecond 2 (some .boolean) [.ref (ad_ G k0), .int v1] S (PI_ o S) := MR_of cb_X3_hasSecond (Nat.le_of_ble_eq_true rfl) [(0, .ref (ad_ G k0)), (1, .int v1)] rfl (tX3_hasSecond hk0 h ⟨rfl, rfl⟩)
set_option maxRecDepth 100000 in
set_option maxHeartbeats 4000000 in
theorem tX3_leadsTo {G : Gx} {post : Option Value → St → Prop} {k0 : Nat} {S : St} {v1 : Int32} {v2 : Int32} {o : Int32} (hk0 : IsLw k0) (h : fX3_leadsTo k0 S v1 v2 = some o) (hp : post (some (.int o)) S) : Rn G shX 0 yX3_leadsTo cX3_leadsTo 5 (some .boolean) 0 [(0, .ref (ad_ G k0)), (1, .int v1), (2, .int v2)] [] S post := by
  unfold fX3_leadsTo at h
  refine r_iload_n 1 dX3_leadsTo_0 rfl rfl ?_
  refine r_istore_n (i := 3) [(0, .ref (ad_ G k0)), (1, .int v1), (2, .int v2), (3, .int v1)] [1, 2, 3, 0] dX3_leadsTo_1 rfl (by decide) rfl ?_
  refine r_iconst (v := 0) dX3_leadsTo_2 rfl ?_
  refine r_istore (i := 4) [(0, .ref (ad_ G k0)), (1, .int v1), (2, .int v2), (3, .int v1), (4, .int 0)] [1, 2, 3, 4, 0] dX3_leadsTo_3 (by decide) rfl ?_
  refine r_sub [(0, .ref (ad_ G k0)), (2, .int v2), (3, .int v1), (4, .int 0)] [0, 2, 3, 4] rfl ?_
  have key : ∀ ex, lp (fun w21 : Int32 × Int32 => bX3_leadsTo_5 k0 S v2 w21.1 w21.2) 5000 (v1, 0) = some ex → (fun ex : (Unit) ⊕ Int32 => match ex with | .inl u28 => Rn G shX 0 yX3_leadsTo cX3_leadsTo 5 (some .boolean) 38 [] [] S post | .inr rr => post (some (.int rr)) S) ex → Rn G shX 0 yX3_leadsTo cX3_leadsTo 5 (some .boolean) 5 [(0, .ref (ad_ G k0)), (2, .int v2), (3, .int v1), (4, .int 0)] [] S post := by
    intro ex hl hx
    refine lp_rule (body := (fun w21 : Int32 × Int32 => bX3_leadsTo_5 k0 S v2 w21.1 w21.2)) (R := (fun w21 : Int32 × Int32 => Rn G shX 0 yX3_leadsTo cX3_leadsTo 5 (some .boolean) 5 [(0, .ref (ad_ G k0)), (2, .int v2), (3, .int w21.1), (4, .int w21.2)] [] S post)) (X := (fun ex : (Unit) ⊕ Int32 => match ex with | .inl u28 => Rn G shX 0 yX3_leadsTo cX3_leadsTo 5 (some .boolean) 38 [] [] S post | .inr rr => post (some (.int rr)) S)) ?_ 5000 (v1, 0) ex hl hx
    intro w21 oo h hB hX
    obtain ⟨v22, v23⟩ := w21
    replace h : bX3_leadsTo_5 k0 S v2 v22 v23 = some oo := h
    unfold bX3_leadsTo_5 at h
    show Rn G shX 0 yX3_leadsTo cX3_leadsTo 5 (some .boolean) 5 [(0, .ref (ad_ G k0)), (2, .int v2), (3, .int v22), (4, .int v23)] [] S post
    refine r_iload 3 dX3_leadsTo_5 rfl ?_
    refine r_bipush (v := 8) dX3_leadsTo_7 rfl ?_
    refine r_icmp_ge 38 dX3_leadsTo_9 (by decide) (fun c27 => ?_) (fun c27 => ?_)
    · rw [if_pos c27] at h
      refine r_sub [] [] rfl ?_
      obtain rfl := Option.some.inj h
      exact hX (.inl ()) rfl
    · rw [if_neg c27] at h
      refine r_iload_n 2 dX3_leadsTo_12 rfl rfl ?_
      refine r_bipush (v := (-4)) dX3_leadsTo_13 rfl ?_
      refine r_icmp_eq 38 dX3_leadsTo_15 (by decide) (fun c26 => ?_) (fun c26 => ?_)
      · rw [if_pos c26] at h
        refine r_sub [] [] rfl ?_
        obtain rfl := Option.some.inj h
        exact hX (.inl ()) rfl
      · rw [if_neg c26] at h
        refine r_iload_n 2 dX3_leadsTo_18 rfl rfl ?_
        refine r_iload_n 1 dX3_leadsTo_19 rfl rfl ?_
        refine r_icmp_ne 25 dX3_leadsTo_20 (by decide) (fun c25 => ?_) (fun c25 => ?_)
        · rw [if_neg c25] at h
          refine r_aload_n 0 dX3_leadsTo_25 rfl rfl ?_
          refine r_getC (k := k0) (j := 4) (r := k0 + 5) hk0.1 rfl fl_X3_24 dX3_leadsTo_26 ?_
          refine r_iload_n 2 dX3_leadsTo_29 rfl rfl ?_
          obtain ⟨x24, hx24, h⟩ := b1_some h
          refine r_iaload hk0.2.2.2.2.2 hx24 dX3_leadsTo_30 ?_
          refine r_istore_n (i := 3) [(0, .ref (ad_ G k0)), (2, .int v2), (3, .int x24), (4, .int v23)] [1, 2, 0, 3] dX3_leadsTo_31 rfl (by decide) rfl ?_
          refine r_iinc (v := v23 + 1) [(0, .ref (ad_ G k0)), (2, .int v2), (3, .int x24), (4, .int (v23 + 1))] 3 [1, 2, 3, 0] dX3_leadsTo_32 rfl rfl (by decide) rfl ?_
          refine r_goto 5 dX3_leadsTo_35 (by decide) ?_
          obtain rfl := Option.some.inj h
          exact hB (x24, v23 + 1) rfl
        · rw [if_pos c25] at h
          refine r_iconst (v := 1) dX3_leadsTo_23 rfl ?_
          obtain rfl := Option.some.inj h
          exact r_zreturn rfl (by decide) dX3_leadsTo_24 (hX (.inr 1) rfl)
  rcases bs_some h with ⟨u28, hu28, h⟩ | ⟨rr, hu28, h⟩
  · refine key _ hu28 ?_
    show Rn G shX 0 yX3_leadsTo cX3_leadsTo 5 (some .boolean) 38 [] [] S post
    refine r_iconst (v := 0) dX3_leadsTo_38 rfl ?_
    obtain rfl := Option.some.inj h
    exact r_zreturn rfl (by decide) dX3_leadsTo_39 (hp)
  · refine key _ hu28 ?_
    show post (some (.int rr)) S
    obtain rfl := Option.some.inj h
    exact hp
theorem mX3_leadsTo {G : Gx} {k0 : Nat} {S : St} {v1 : Int32} {v2 : Int32} {o : Int32} (hk0 : IsLw k0) (h : fX3_leadsTo k0 S v1 v2 = some o) : MR_ G shX 0 yX3_leadsTo cX3_leadsTo 5 (some .boolean) [.ref (ad_ G k0), .int v1, .int v2] S (PI_ o S) := MR_of cb_X3_leadsTo (Nat.le_of_ble_eq_true rfl) [(0, .ref (ad_ G k0)), (1, .int v1), (2, .int v2)] rfl (tX3_leadsTo hk0 h ⟨rfl, rfl⟩)
