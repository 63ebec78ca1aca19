set_option maxRecDepth 100000 in
set_option maxHeartbeats 4000000 in
theorem tX11_within {G : Gx} {post : Option Value → St → Prop} {S : St} {v0 : Int32} {v1 : Int32} {v2 : Int32} {o : Int32}  (h : fX11_within S v0 v1 v2 = some o) (hp : post (some (.int o)) S) : Rn G shX 0 yX11_within cX11_within 3 (some .boolean) 0 [(0, .int v0), (1, .int v1), (2, .int v2)] [] S post := by
  unfold fX11_within at h
  refine r_iload_n 0 dX11_within_0 rfl rfl ?_
  refine r_iload_n 1 dX11_within_1 rfl rfl ?_
  refine r_icmp_lt 14 dX11_within_2 (by decide) (fun c22 => ?_) (fun c22 => ?_)
  · rw [if_pos c22] at h
    refine r_iconst (v := 0) dX11_within_14 rfl ?_
    obtain rfl := Option.some.inj h
    exact r_zreturn rfl (by decide) dX11_within_15 (hp)
  · rw [if_neg c22] at h
    refine r_iload_n 0 dX11_within_5 rfl rfl ?_
    refine r_iload_n 2 dX11_within_6 rfl rfl ?_
    refine r_icmp_gt 14 dX11_within_7 (by decide) (fun c21 => ?_) (fun c21 => ?_)
    · rw [if_pos c21] at h
      refine r_iconst (v := 0) dX11_within_14 rfl ?_
      obtain rfl := Option.some.inj h
      exact r_zreturn rfl (by decide) dX11_within_15 (hp)
    · rw [if_neg c21] at h
      refine r_iconst (v := 1) dX11_within_10 rfl ?_
      refine r_goto 15 dX11_within_11 (by decide) ?_
      obtain rfl := Option.some.inj h
      exact r_zreturn rfl (by decide) dX11_within_15 (hp)
theorem mX11_within {G : Gx} {S : St} {v0 : Int32} {v1 : Int32} {v2 : Int32} {o : Int32}  (h : fX11_within S v0 v1 v2 = some o) : MR_ G shX 0 yX11_within cX11_within 3 (some .boolean) [.int v0, .int v1, .int v2] S (PI_ o S) := MR_of cb_X11_within (Nat.le_of_ble_eq_true rfl) [(0, .int v0), (1, .int v1), (2, .int v2)] rfl (tX11_within  h ⟨rfl, rfl⟩)
set_option maxRecDepth 100000 in
set_option maxHeartbeats 4000000 in
theorem tX1_renew {G : Gx} {post : Option Value → St → Prop} {k0 : Nat} {S : St} {v1 : Int32} {v2 : Int32} {o : St} (hk0 : IsBd k0) (h : fX1_renew k0 S v1 v2 = some o) (hp : post none o) : Rn G shX 0 yX1_renew cX1_renew 4 none 0 [(0, .ref (ad_ G k0)), (1, .int v1), (2, .int v2)] [] S post := by
  unfold fX1_renew at h
  refine r_aload_n 0 dX1_renew_0 rfl rfl ?_
  refine r_iload_n 1 dX1_renew_1 rfl rfl ?_
  obtain ⟨S21, hS21, h⟩ := b1_some h
  refine r_setI (k := k0) (j := 0) hk0.1 rfl pf_X1_9 hS21 dX1_renew_2 ?_
  refine r_aload_n 0 dX1_renew_5 rfl rfl ?_
  refine r_iload_n 2 dX1_renew_6 rfl rfl ?_
  obtain ⟨S22, hS22, h⟩ := b1_some h
  refine r_setI (k := k0) (j := 1) hk0.1 rfl pf_X1_15 hS22 dX1_renew_7 ?_
  refine r_aload_n 0 dX1_renew_10 rfl rfl ?_
  refine r_lconst (v := 0) dX1_renew_11 rfl ?_
  obtain ⟨S23, hS23, h⟩ := b1_some h
  refine r_setL (k := k0) (j := 2) hk0.1 rfl pf_X1_18 hS23 dX1_renew_12 ?_
  refine r_iconst (v := 0) dX1_renew_15 rfl ?_
  refine r_istore_n (i := 3) [(0, .ref (ad_ G k0)), (1, .int v1), (2, .int v2), (3, .int 0)] [1, 2, 3, 0] dX1_renew_16 rfl (by decide) rfl ?_
  refine r_sub [(0, .ref (ad_ G k0)), (3, .int 0)] [0, 3] rfl ?_
  have key : ∀ ex, lp (fun w24 : Int32 × St => bX1_renew_17 k0 w24.1 w24.2) 5000 (0, S23) = some ex → (fun u29 : St => Rn G shX 0 yX1_renew cX1_renew 4 none 36 [] [] u29 post) ex → Rn G shX 0 yX1_renew cX1_renew 4 none 17 [(0, .ref (ad_ G k0)), (3, .int 0)] [] S23 post := by
    intro ex hl hx
    refine lp_rule (body := (fun w24 : Int32 × St => bX1_renew_17 k0 w24.1 w24.2)) (R := (fun w24 : Int32 × St => Rn G shX 0 yX1_renew cX1_renew 4 none 17 [(0, .ref (ad_ G k0)), (3, .int w24.1)] [] w24.2 post)) (X := (fun u29 : St => Rn G shX 0 yX1_renew cX1_renew 4 none 36 [] [] u29 post)) ?_ 5000 (0, S23) ex hl hx
    intro w24 oo h hB hX
    obtain ⟨v25, S26⟩ := w24
    replace h : bX1_renew_17 k0 v25 S26 = some oo := h
    unfold bX1_renew_17 at h
    show Rn G shX 0 yX1_renew cX1_renew 4 none 17 [(0, .ref (ad_ G k0)), (3, .int v25)] [] S26 post
    refine r_iload_n 1 dX1_renew_17 rfl rfl ?_
    refine r_bipush (v := 64) dX1_renew_18 rfl ?_
    refine r_icmp_ge 36 dX1_renew_20 (by decide) (fun c28 => ?_) (fun c28 => ?_)
    · rw [if_pos c28] at h
      refine r_sub [] [] rfl ?_
      obtain rfl := Option.some.inj h
      exact hX S26 rfl
    · rw [if_neg c28] at h
      refine r_aload_n 0 dX1_renew_23 rfl rfl ?_
      refine r_getC (k := k0) (j := 3) (r := k0 + 1) hk0.1 rfl fl_X1_22 dX1_renew_24 ?_
      refine r_iload_n 1 dX1_renew_27 rfl rfl ?_
      refine r_iconst (v := 0) dX1_renew_28 rfl ?_
      obtain ⟨S27, hS27, h⟩ := b1_some h
      refine r_iastore hk0.2 hS27 dX1_renew_29 ?_
      refine r_iinc (v := v25 + 1) [(0, .ref (ad_ G k0)), (3, .int (v25 + 1))] 1 [1, 0] dX1_renew_30 rfl rfl (by decide) rfl ?_
      refine r_goto 17 dX1_renew_33 (by decide) ?_
      obtain rfl := Option.some.inj h
      exact hB (v25 + 1, S27) rfl
  obtain ⟨u29, hu29, h⟩ := b1_some h
  refine key u29 hu29 ?_
  show Rn G shX 0 yX1_renew cX1_renew 4 none 36 [] [] u29 post
  obtain rfl := Option.some.inj h
  exact r_return rfl dX1_renew_36 (hp)
theorem mX1_renew {G : Gx} {k0 : Nat} {S : St} {v1 : Int32} {v2 : Int32} {o : St} (hk0 : IsBd k0) (h : fX1_renew k0 S v1 v2 = some o) : MR_ G shX 0 yX1_renew cX1_renew 4 none [.ref (ad_ G k0), .int v1, .int v2] S (PV_ o) := MR_of cb_X1_renew (Nat.le_of_ble_eq_true rfl) [(0, .ref (ad_ G k0)), (1, .int v1), (2, .int v2)] rfl (tX1_renew hk0 h ⟨rfl, rfl⟩)
set_option maxRecDepth 100000 in
set_option maxHeartbeats 4000000 in
theorem tX11_burl {G : Gx} {post : Option Value → St → Prop} {S : St} {v1 : Int32} {v2 : Int32} {o : (Int32 × St)}  (h : fX11_burl S v1 v2 = some o) (hp : post (some (.int o.1)) o.2) : Rn G shX 1 yX11_burl cX11_burl 3 (some .int) 0 [(0, .ref (ad_ G 0)), (1, .int v1), (2, .int v2)] [] S post := by
  unfold fX11_burl at h
  refine r_iload_n 1 dX11_burl_0 rfl rfl ?_
  refine r_iconst (v := 1) dX11_burl_1 rfl ?_
  refine r_bipush (v := 8) dX11_burl_2 rfl ?_
  obtain ⟨x21, hx21, h⟩ := b1_some h
  refine r_callSi (rest := []) (by omega) (mX11_within hx21) cb_X11_within ml_X11_103 sm_X11_within rfl rfl (Nat.le_of_ble_eq_true rfl) dX11_burl_4 ?_
  refine r_if_eq 20 dX11_burl_7 (by decide) (fun c27 => ?_) (fun c27 => ?_)
  · rw [if_pos c27] at h
    refine r_iconst (v := (-1)) dX11_burl_20 rfl ?_
    obtain rfl := Option.some.inj h
    exact r_ireturn rfl dX11_burl_21 (hp)
  · rw [if_neg c27] at h
    refine r_iload_n 2 dX11_burl_10 rfl rfl ?_
    refine r_iconst (v := 1) dX11_burl_11 rfl ?_
    refine r_bipush (v := 8) dX11_burl_12 rfl ?_
    obtain ⟨x22, hx22, h⟩ := b1_some h
    refine r_callSi (rest := []) (by omega) (mX11_within hx22) cb_X11_within ml_X11_103 sm_X11_within rfl rfl (Nat.le_of_ble_eq_true rfl) dX11_burl_14 ?_
    refine r_if_ne 22 dX11_burl_17 (by decide) (fun c26 => ?_) (fun c26 => ?_)
    · rw [if_neg c26] at h
      refine r_aload_n 0 dX11_burl_22 rfl rfl ?_
      refine r_getC (k := 0) (j := 0) (r := 1) sX_0 rfl fl_X11_10 dX11_burl_23 ?_
      refine r_iload_n 1 dX11_burl_26 rfl rfl ?_
      refine r_iload_n 2 dX11_burl_27 rfl rfl ?_
      obtain ⟨S23, hS23, h⟩ := b1_some h
      refine r_callVv (k := 1) (rest := []) (by omega) (mX1_renew is_1 hS23) sX_1 rfl rfl cb_X1_renew ml_X11_107 im_X1_renew se_X1_renew rfl rfl (Nat.le_of_ble_eq_true rfl) dX11_burl_28 ?_
      refine r_aload_n 0 dX11_burl_31 rfl rfl ?_
      refine r_getC (k := 0) (j := 1) (r := 3) sX_0 rfl fl_X11_19 dX11_burl_32 ?_
      refine r_iconst (v := 0) dX11_burl_35 rfl ?_
      obtain ⟨S24, hS24, h⟩ := b1_some h
      refine r_setI (k := 3) (j := 2) sX_3 rfl pf_X11_111 hS24 dX11_burl_36 ?_
      refine r_aload_n 0 dX11_burl_39 rfl rfl ?_
      refine r_iconst (v := 0) dX11_burl_40 rfl ?_
      obtain ⟨S25, hS25, h⟩ := b1_some h
      refine r_setI (k := 0) (j := 5) sX_0 rfl pf_X11_43 hS25 dX11_burl_41 ?_
      refine r_iconst (v := 1) dX11_burl_44 rfl ?_
      obtain rfl := Option.some.inj h
      exact r_ireturn rfl dX11_burl_45 (hp)
    · rw [if_pos c26] at h
      refine r_iconst (v := (-1)) dX11_burl_20 rfl ?_
      obtain rfl := Option.some.inj h
      exact r_ireturn rfl dX11_burl_21 (hp)
theorem mX11_burl {G : Gx} {S : St} {v1 : Int32} {v2 : Int32} {o : (Int32 × St)}  (h : fX11_burl S v1 v2 = some o) : MR_ G shX 1 yX11_burl cX11_burl 3 (some .int) [.ref (ad_ G 0), .int v1, .int v2] S (PI_ o.1 o.2) := MR_of cb_X11_burl (Nat.le_of_ble_eq_true rfl) [(0, .ref (ad_ G 0)), (1, .int v1), (2, .int v2)] rfl (tX11_burl  h ⟨rfl, rfl⟩)
set_option maxRecDepth 100000 in
set_option maxHeartbeats 4000000 in
theorem tX1_hasSquare {G : Gx} {post : Option Value → St → Prop} {k0 : Nat} {S : St} {v1 : Int32} {v2 : Int32} {o : Int32} (hk0 : IsBd k0) (h : fX1_hasSquare k0 S v1 v2 = some o) (hp : post (some (.int o)) S) : Rn G shX 1 yX1_hasSquare cX1_hasSquare 3 (some .boolean) 0 [(0, .ref (ad_ G k0)), (1, .int v1), (2, .int v2)] [] S post := by
  unfold fX1_hasSquare at h
  refine r_iload_n 1 dX1_hasSquare_0 rfl rfl ?_
  refine r_iconst (v := 0) dX1_hasSquare_1 rfl ?_
  refine r_aload_n 0 dX1_hasSquare_2 rfl rfl ?_
  refine r_getI (k := k0) (j := 0) hk0.1 rfl fl_X1_9 dX1_hasSquare_3 ?_
  refine r_iconst (v := 1) dX1_hasSquare_6 rfl ?_
  refine r_isub dX1_hasSquare_7 ?_
  obtain ⟨x21, hx21, h⟩ := b1_some h
  refine r_callSNi (rest := []) (by omega) (mX11_within hx21) cb_X11_within (by decide) sm_X11_within rfl rfl (Nat.le_of_ble_eq_true rfl) dX1_hasSquare_8 ?_
  refine r_if_eq 32 dX1_hasSquare_11 (by decide) (fun c24 => ?_) (fun c24 => ?_)
  · rw [if_pos c24] at h
    refine r_iconst (v := 0) dX1_hasSquare_32 rfl ?_
    obtain rfl := Option.some.inj h
    exact r_zreturn rfl (by decide) dX1_hasSquare_33 (hp)
  · rw [if_neg c24] at h
    refine r_iload_n 2 dX1_hasSquare_14 rfl rfl ?_
    refine r_iconst (v := 0) dX1_hasSquare_15 rfl ?_
    refine r_aload_n 0 dX1_hasSquare_16 rfl rfl ?_
    refine r_getI (k := k0) (j := 1) hk0.1 rfl fl_X1_15 dX1_hasSquare_17 ?_
    refine r_iconst (v := 1) dX1_hasSquare_20 rfl ?_
    refine r_isub dX1_hasSquare_21 ?_
    obtain ⟨x22, hx22, h⟩ := b1_some h
    refine r_callSNi (rest := []) (by omega) (mX11_within hx22) cb_X11_within (by decide) sm_X11_within rfl rfl (Nat.le_of_ble_eq_true rfl) dX1_hasSquare_22 ?_
    refine r_if_eq 32 dX1_hasSquare_25 (by decide) (fun c23 => ?_) (fun c23 => ?_)
    · rw [if_pos c23] at h
      refine r_iconst (v := 0) dX1_hasSquare_32 rfl ?_
      obtain rfl := Option.some.inj h
      exact r_zreturn rfl (by decide) dX1_hasSquare_33 (hp)
    · rw [if_neg c23] at h
      refine r_iconst (v := 1) dX1_hasSquare_28 rfl ?_
      refine r_goto 33 dX1_hasSquare_29 (by decide) ?_
      obtain rfl := Option.some.inj h
      exact r_zreturn rfl (by decide) dX1_hasSquare_33 (hp)
theorem mX1_hasSquare {G : Gx} {k0 : Nat} {S : St} {v1 : Int32} {v2 : Int32} {o : Int32} (hk0 : IsBd k0) (h : fX1_hasSquare k0 S v1 v2 = some o) : MR_ G shX 1 yX1_hasSquare cX1_hasSquare 3 (some .boolean) [.ref (ad_ G k0), .int v1, .int v2] S (PI_ o S) := MR_of cb_X1_hasSquare (Nat.le_of_ble_eq_true rfl) [(0, .ref (ad_ G k0)), (1, .int v1), (2, .int v2)] rfl (tX1_hasSquare hk0 h ⟨rfl, rfl⟩)
set_option maxRecDepth 100000 in
set_option maxHeartbeats 4000000 in
theorem tX1_copyFrom {G : Gx} {post : Option Value → St → Prop} {k0 : Nat} {k1 : Nat} {S : St} {o : St} (hk0 : IsBd k0) (hk1 : IsBd k1) (h : fX1_copyFrom k0 k1 S = some o) (hp : post none o) : Rn G shX 1 yX1_copyFrom cX1_copyFrom 2 none 0 [(0, .ref (ad_ G k0)), (1, .ref (ad_ G k1))] [] S post := by
  unfold fX1_copyFrom at h
  refine r_aload_n 0 dX1_copyFrom_0 rfl rfl ?_
  refine r_aload_n 1 dX1_copyFrom_1 rfl rfl ?_
  refine r_getI (k := k1) (j := 0) hk1.1 rfl fl_X1_9 dX1_copyFrom_2 ?_
  obtain ⟨S21, hS21, h⟩ := b1_some h
  refine r_setI (k := k0) (j := 0) hk0.1 rfl pf_X1_9 hS21 dX1_copyFrom_5 ?_
  refine r_aload_n 0 dX1_copyFrom_8 rfl rfl ?_
  refine r_aload_n 1 dX1_copyFrom_9 rfl rfl ?_
  refine r_getI (k := k1) (j := 1) hk1.1 rfl fl_X1_15 dX1_copyFrom_10 ?_
  obtain ⟨S22, hS22, h⟩ := b1_some h
  refine r_setI (k := k0) (j := 1) hk0.1 rfl pf_X1_15 hS22 dX1_copyFrom_13 ?_
  refine r_aload_n 0 dX1_copyFrom_16 rfl rfl ?_
  refine r_aload_n 1 dX1_copyFrom_17 rfl rfl ?_
  refine r_getL (k := k1) (j := 2) hk1.1 rfl fl_X1_18 dX1_copyFrom_18 ?_
  obtain ⟨S23, hS23, h⟩ := b1_some h
  refine r_setL (k := k0) (j := 2) hk0.1 rfl pf_X1_18 hS23 dX1_copyFrom_21 ?_
  refine r_aload_n 1 dX1_copyFrom_24 rfl rfl ?_
  refine r_getC (k := k1) (j := 3) (r := k1 + 1) hk1.1 rfl fl_X1_22 dX1_copyFrom_25 ?_
  refine r_iconst (v := 0) dX1_copyFrom_28 rfl ?_
  refine r_aload_n 0 dX1_copyFrom_29 rfl rfl ?_
  refine r_getC (k := k0) (j := 3) (r := k0 + 1) hk0.1 rfl fl_X1_22 dX1_copyFrom_30 ?_
  refine r_iconst (v := 0) dX1_copyFrom_33 rfl ?_
  refine r_bipush (v := 64) dX1_copyFrom_34 rfl ?_
  obtain ⟨S24, hS24, h⟩ := b1_some h
  refine r_copy (by omega) hk1.2 hk0.2 ml_X1_26 hS24 (Nat.le_of_ble_eq_true rfl) dX1_copyFrom_36 ?_
  obtain rfl := Option.some.inj h
  exact r_return rfl dX1_copyFrom_39 (hp)
theorem mX1_copyFrom {G : Gx} {k0 : Nat} {k1 : Nat} {S : St} {o : St} (hk0 : IsBd k0) (hk1 : IsBd k1) (h : fX1_copyFrom k0 k1 S = some o) : MR_ G shX 1 yX1_copyFrom cX1_copyFrom 2 none [.ref (ad_ G k0), .ref (ad_ G k1)] S (PV_ o) := MR_of cb_X1_copyFrom (Nat.le_of_ble_eq_true rfl) [(0, .ref (ad_ G k0)), (1, .ref (ad_ G k1))] rfl (tX1_copyFrom hk0 hk1 h ⟨rfl, rfl⟩)
set_option maxRecDepth 100000 in
set_option maxHeartbeats 4000000 in
theorem tX0_keep {G : Gx} {post : Option Value → St → Prop} {k1 : Nat} {S : St} {o : St} (hk1 : IsBd k1) (h : fX0_keep k1 S = some o) (hp : post none o) : Rn G shX 2 yX0_keep cX0_keep 2 none 0 [(0, .ref (ad_ G 3)), (1, .ref (ad_ G k1))] [] S post := by
  unfold fX0_keep at h
  refine r_aload_n 0 dX0_keep_0 rfl rfl ?_
  refine r_getC (k := 3) (j := 0) (r := 4) sX_3 rfl fl_X0_11 dX0_keep_1 ?_
  refine r_aload_n 0 dX0_keep_4 rfl rfl ?_
  refine r_getI (k := 3) (j := 1) sX_3 rfl fl_X0_17 dX0_keep_5 ?_
  obtain ⟨k21, hk21, h⟩ := b1_some h
  have ik21 := is_acts hk21
  refine r_aaload (t := 0) sX_4 rfl hk21 dX0_keep_8 ?_
  refine r_aload_n 1 dX0_keep_9 rfl rfl ?_
  obtain ⟨S22, hS22, h⟩ := b1_some h
  refine r_callVv (k := k21) (rest := []) (by omega) (mX1_copyFrom ik21 hk1 hS22) ik21.1 rfl rfl cb_X1_copyFrom ml_X0_25 im_X1_copyFrom se_X1_copyFrom rfl rfl (Nat.le_of_ble_eq_true rfl) dX0_keep_10 ?_
  refine r_aload_n 0 dX0_keep_13 rfl rfl ?_
  refine r_aload_n 0 dX0_keep_14 rfl rfl ?_
  refine r_getI (k := 3) (j := 1) sX_3 rfl fl_X0_17 dX0_keep_15 ?_
  refine r_bipush (v := 7) dX0_keep_18 rfl ?_
  obtain ⟨w23, hw23, h⟩ := b1_some h
  have hJ : Rn G shX 2 yX0_keep cX0_keep 2 none 33 [(0, .ref (ad_ G 3))] [.int w23, .ref (ad_ G 3)] S22 post := by
    obtain ⟨S24, hS24, h⟩ := b1_some h
    refine r_setI (k := 3) (j := 1) sX_3 rfl pf_X0_17 hS24 dX0_keep_33 ?_
    refine r_aload_n 0 dX0_keep_36 rfl rfl ?_
    refine r_bipush (v := 8) dX0_keep_37 rfl ?_
    refine r_aload_n 0 dX0_keep_39 rfl rfl ?_
    refine r_getI (k := 3) (j := 2) sX_3 rfl fl_X0_21 dX0_keep_40 ?_
    refine r_iconst (v := 1) dX0_keep_43 rfl ?_
    refine r_iadd dX0_keep_44 ?_
    refine r_mmin (rest := [.ref (ad_ G 3)]) (by omega) ml_X0_29 (Nat.le_of_ble_eq_true rfl) dX0_keep_45 ?_
    obtain ⟨S25, hS25, h⟩ := b1_some h
    refine r_setI (k := 3) (j := 2) sX_3 rfl pf_X0_21 hS25 dX0_keep_48 ?_
    obtain rfl := Option.some.inj h
    exact r_return rfl dX0_keep_51 (hp)
  clear h
  replace h := hw23
  refine r_icmp_ne 27 dX0_keep_20 (by decide) (fun c26 => ?_) (fun c26 => ?_)
  · rw [if_neg c26] at h
    refine r_aload_n 0 dX0_keep_27 rfl rfl ?_
    refine r_getI (k := 3) (j := 1) sX_3 rfl fl_X0_17 dX0_keep_28 ?_
    refine r_iconst (v := 1) dX0_keep_31 rfl ?_
    refine r_iadd dX0_keep_32 ?_
    refine r_sub [(0, .ref (ad_ G 3))] [0] rfl ?_
    obtain rfl := Option.some.inj h
    exact hJ
  · rw [if_pos c26] at h
    refine r_iconst (v := 0) dX0_keep_23 rfl ?_
    refine r_goto 33 dX0_keep_24 (by decide) ?_
    refine r_sub [(0, .ref (ad_ G 3))] [0] rfl ?_
    obtain rfl := Option.some.inj h
    exact hJ
theorem mX0_keep {G : Gx} {k1 : Nat} {S : St} {o : St} (hk1 : IsBd k1) (h : fX0_keep k1 S = some o) : MR_ G shX 2 yX0_keep cX0_keep 2 none [.ref (ad_ G 3), .ref (ad_ G k1)] S (PV_ o) := MR_of cb_X0_keep (Nat.le_of_ble_eq_true rfl) [(0, .ref (ad_ G 3)), (1, .ref (ad_ G k1))] rfl (tX0_keep hk1 h ⟨rfl, rfl⟩)
set_option maxRecDepth 100000 in
set_option maxHeartbeats 4000000 in
theorem tX11_squareAt {G : Gx} {post : Option Value → St → Prop} {S : St} {v0 : Int32} {v1 : Int32} {o : Int32}  (h : fX11_squareAt S v0 v1 = some o) (hp : post (some (.int o)) S) : Rn G shX 0 yX11_squareAt cX11_squareAt 2 (some .int) 0 [(0, .int v0), (1, .int v1)] [] S post := by
  unfold fX11_squareAt at h
  refine r_iload_n 1 dX11_squareAt_0 rfl rfl ?_
  refine r_bipush (v := 8) dX11_squareAt_1 rfl ?_
  refine r_imul dX11_squareAt_3 ?_
  refine r_iload_n 0 dX11_squareAt_4 rfl rfl ?_
  refine r_iadd dX11_squareAt_5 ?_
  obtain rfl := Option.some.inj h
  exact r_ireturn rfl dX11_squareAt_6 (hp)
theorem mX11_squareAt {G : Gx} {S : St} {v0 : Int32} {v1 : Int32} {o : Int32}  (h : fX11_squareAt S v0 v1 = some o) : MR_ G shX 0 yX11_squareAt cX11_squareAt 2 (some .int) [.int v0, .int v1] S (PI_ o S) := MR_of cb_X11_squareAt (Nat.le_of_ble_eq_true rfl) [(0, .int v0), (1, .int v1)] rfl (tX11_squareAt  h ⟨rfl, rfl⟩)
set_option maxRecDepth 100000 in
set_option maxHeartbeats 4000000 in
theorem tX11_bit {G : Gx} {post : Option Value → St → Prop} {S : St} {v0 : Int64} {v2 : Int32} {v3 : Int32} {o : Int32}  (h : fX11_bit S v0 v2 v3 = some o) (hp : post (some (.int o)) S) : Rn G shX 1 yX11_bit cX11_bit 4 (some .int) 0 [(0, .long v0), (2, .int v2), (3, .int v3)] [] S post := by
  unfold fX11_bit at h
  refine r_lload_n 0 dX11_bit_0 rfl rfl ?_
  refine r_iload_n 1 dX11_bit_1 rfl rfl ?_
  refine r_iload_n 2 dX11_bit_2 rfl rfl ?_
  obtain ⟨x21, hx21, h⟩ := b1_some h
  refine r_callSi (rest := [.long v0]) (by omega) (mX11_squareAt hx21) cb_X11_squareAt ml_X11_134 sm_X11_squareAt rfl rfl (Nat.le_of_ble_eq_true rfl) dX11_bit_3 ?_
  refine r_lshr dX11_bit_6 ?_
  refine r_lconst (v := 1) dX11_bit_7 rfl ?_
  refine r_land dX11_bit_8 ?_
  refine r_l2i dX11_bit_9 ?_
  obtain rfl := Option.some.inj h
  exact r_ireturn rfl dX11_bit_10 (hp)
theorem mX11_bit {G : Gx} {S : St} {v0 : Int64} {v2 : Int32} {v3 : Int32} {o : Int32}  (h : fX11_bit S v0 v2 v3 = some o) : MR_ G shX 1 yX11_bit cX11_bit 4 (some .int) [.long v0, .int v2, .int v3] S (PI_ o S) := MR_of cb_X11_bit (Nat.le_of_ble_eq_true rfl) [(0, .long v0), (2, .int v2), (3, .int v3)] rfl (tX11_bit  h ⟨rfl, rfl⟩)
set_option maxRecDepth 100000 in
set_option maxHeartbeats 4000000 in
theorem tX11_withBit {G : Gx} {post : Option Value → St → Prop} {S : St} {v0 : Int64} {v2 : Int32} {v3 : Int32} {v4 : Int32} {o : Int64}  (h : fX11_withBit S v0 v2 v3 v4 = some o) (hp : post (some (.long o)) S) : Rn G shX 1 yX11_withBit cX11_withBit 7 (some .long) 0 [(0, .long v0), (2, .int v2), (3, .int v3), (4, .int v4)] [] S post := by
  unfold fX11_withBit at h
  refine r_lconst (v := 1) dX11_withBit_0 rfl ?_
  refine r_iload_n 1 dX11_withBit_1 rfl rfl ?_
  refine r_iload_n 2 dX11_withBit_2 rfl rfl ?_
  obtain ⟨x21, hx21, h⟩ := b1_some h
  refine r_callSi (rest := [.long 1]) (by omega) (mX11_squareAt hx21) cb_X11_squareAt ml_X11_134 sm_X11_squareAt rfl rfl (Nat.le_of_ble_eq_true rfl) dX11_withBit_3 ?_
  refine r_lshl dX11_withBit_6 ?_
  obtain ⟨x22, hx22, h⟩ := b1_some h
  rw [Option.some.inj hx22]
  refine r_lstore (i := 5) [(0, .long v0), (2, .int v2), (3, .int v3), (4, .int v4), (5, .long x22)] [1, 2, 3, 4, 0] dX11_withBit_7 (by decide) rfl ?_
  refine r_iload 3 dX11_withBit_9 rfl ?_
  refine r_if_eq 21 dX11_withBit_11 (by decide) (fun c23 => ?_) (fun c23 => ?_)
  · rw [if_pos c23] at h
    refine r_lload_n 0 dX11_withBit_21 rfl rfl ?_
    refine r_lload 4 dX11_withBit_22 rfl ?_
    refine r_ldc2 kl_X11_418 dX11_withBit_24 ?_
    refine r_lxor dX11_withBit_27 ?_
    refine r_land dX11_withBit_28 ?_
    obtain rfl := Option.some.inj h
    exact r_lreturn rfl dX11_withBit_29 (hp)
  · rw [if_neg c23] at h
    refine r_lload_n 0 dX11_withBit_14 rfl rfl ?_
    refine r_lload 4 dX11_withBit_15 rfl ?_
    refine r_lor dX11_withBit_17 ?_
    refine r_goto 29 dX11_withBit_18 (by decide) ?_
    obtain rfl := Option.some.inj h
    exact r_lreturn rfl dX11_withBit_29 (hp)
theorem mX11_withBit {G : Gx} {S : St} {v0 : Int64} {v2 : Int32} {v3 : Int32} {v4 : Int32} {o : Int64}  (h : fX11_withBit S v0 v2 v3 v4 = some o) : MR_ G shX 1 yX11_withBit cX11_withBit 7 (some .long) [.long v0, .int v2, .int v3, .int v4] S (PL_ o S) := MR_of cb_X11_withBit (Nat.le_of_ble_eq_true rfl) [(0, .long v0), (2, .int v2), (3, .int v3), (4, .int v4)] rfl (tX11_withBit  h ⟨rfl, rfl⟩)
set_option maxRecDepth 100000 in
set_option maxHeartbeats 4000000 in
theorem tX11_crack {G : Gx} {post : Option Value → St → Prop} {S : St} {v1 : Int32} {v2 : Int32} {v3 : Int32} {o : (Int32 × St)}  (h : fX11_crack S v1 v2 v3 = some o) (hp : post (some (.int o.1)) o.2) : Rn G shX 3 yX11_crack cX11_crack 5 (some .int) 0 [(0, .ref (ad_ G 0)), (1, .int v1), (2, .int v2), (3, .int v3)] [] S post := by
  unfold fX11_crack at h
  refine r_aload_n 0 dX11_crack_0 rfl rfl ?_
  refine r_getC (k := 0) (j := 0) (r := 1) sX_0 rfl fl_X11_10 dX11_crack_1 ?_
  refine r_iload_n 1 dX11_crack_4 rfl rfl ?_
  refine r_iload_n 2 dX11_crack_5 rfl rfl ?_
  obtain ⟨x21, hx21, h⟩ := b1_some h
  refine r_callVi (k := 1) (rest := []) (by omega) (mX1_hasSquare is_1 hx21) sX_1 rfl rfl cb_X1_hasSquare ml_X11_114 im_X1_hasSquare se_X1_hasSquare rfl rfl (Nat.le_of_ble_eq_true rfl) dX11_crack_6 ?_
  refine r_if_ne 14 dX11_crack_9 (by decide) (fun c26 => ?_) (fun c26 => ?_)
  · rw [if_neg c26] at h
    refine r_aload_n 0 dX11_crack_14 rfl rfl ?_
    refine r_getC (k := 0) (j := 1) (r := 3) sX_0 rfl fl_X11_19 dX11_crack_15 ?_
    refine r_aload_n 0 dX11_crack_18 rfl rfl ?_
    refine r_getC (k := 0) (j := 0) (r := 1) sX_0 rfl fl_X11_10 dX11_crack_19 ?_
    obtain ⟨S22, hS22, h⟩ := b1_some h
    refine r_callVv (k := 3) (rest := []) (by omega) (mX0_keep is_1 hS22) sX_3 rfl rfl cb_X0_keep ml_X11_118 im_X0_keep se_X0_keep rfl rfl (Nat.le_of_ble_eq_true rfl) dX11_crack_22 ?_
    refine r_aload_n 0 dX11_crack_25 rfl rfl ?_
    refine r_getC (k := 0) (j := 0) (r := 1) sX_0 rfl fl_X11_10 dX11_crack_26 ?_
    refine r_getL (k := 1) (j := 2) sX_1 rfl fl_X11_122 dX11_crack_29 ?_
    refine r_iload_n 1 dX11_crack_32 rfl rfl ?_
    refine r_iload_n 2 dX11_crack_33 rfl rfl ?_
    obtain ⟨x23, hx23, h⟩ := b1_some h
    refine r_callSi (rest := []) (by omega) (mX11_bit hx23) cb_X11_bit ml_X11_126 sm_X11_bit rfl rfl (Nat.le_of_ble_eq_true rfl) dX11_crack_34 ?_
    refine r_istore (i := 4) [(0, .ref (ad_ G 0)), (1, .int v1), (2, .int v2), (3, .int v3), (4, .int x23)] [1, 2, 3, 4, 0] dX11_crack_37 (by decide) rfl ?_
    refine r_aload_n 0 dX11_crack_39 rfl rfl ?_
    refine r_getC (k := 0) (j := 0) (r := 1) sX_0 rfl fl_X11_10 dX11_crack_40 ?_
    refine r_aload_n 0 dX11_crack_43 rfl rfl ?_
    refine r_getC (k := 0) (j := 0) (r := 1) sX_0 rfl fl_X11_10 dX11_crack_44 ?_
    refine r_getL (k := 1) (j := 2) sX_1 rfl fl_X11_122 dX11_crack_47 ?_
    refine r_iload_n 1 dX11_crack_50 rfl rfl ?_
    refine r_iload_n 2 dX11_crack_51 rfl rfl ?_
    refine r_iload_n 3 dX11_crack_52 rfl rfl ?_
    obtain ⟨x24, hx24, h⟩ := b1_some h
    refine r_callSl (rest := [.ref (ad_ G 1)]) (by omega) (mX11_withBit hx24) cb_X11_withBit ml_X11_130 sm_X11_withBit rfl rfl (Nat.le_of_ble_eq_true rfl) dX11_crack_53 ?_
    obtain ⟨S25, hS25, h⟩ := b1_some h
    refine r_setL (k := 1) (j := 2) sX_1 rfl pf_X11_122 hS25 dX11_crack_56 ?_
    refine r_iload 4 dX11_crack_59 rfl ?_
    obtain rfl := Option.some.inj h
    exact r_ireturn rfl dX11_crack_61 (hp)
  · rw [if_pos c26] at h
    refine r_iconst (v := (-1)) dX11_crack_12 rfl ?_
    obtain rfl := Option.some.inj h
    exact r_ireturn rfl dX11_crack_13 (hp)
theorem mX11_crack {G : Gx} {S : St} {v1 : Int32} {v2 : Int32} {v3 : Int32} {o : (Int32 × St)}  (h : fX11_crack S v1 v2 v3 = some o) : MR_ G shX 3 yX11_crack cX11_crack 5 (some .int) [.ref (ad_ G 0), .int v1, .int v2, .int v3] S (PI_ o.1 o.2) := MR_of cb_X11_crack (Nat.le_of_ble_eq_true rfl) [(0, .ref (ad_ G 0)), (1, .int v1), (2, .int v2), (3, .int v3)] rfl (tX11_crack  h ⟨rfl, rfl⟩)
set_option maxRecDepth 100000 in
set_option maxHeartbeats 4000000 in
theorem tX11_grain {G : Gx} {post : Option Value → St → Prop} {S : St} {v1 : Int32} {v2 : Int32} {v3 : Int32} {o : (Int32 × St)}  (h : fX11_grain S v1 v2 v3 = some o) (hp : post (some (.int o.1)) o.2) : Rn G shX 3 yX11_grain cX11_grain 6 (some .int) 0 [(0, .ref (ad_ G 0)), (1, .int v1), (2, .int v2), (3, .int v3)] [] S post := by
  unfold fX11_grain at h
  refine r_aload_n 0 dX11_grain_0 rfl rfl ?_
  refine r_getC (k := 0) (j := 0) (r := 1) sX_0 rfl fl_X11_10 dX11_grain_1 ?_
  refine r_iload_n 1 dX11_grain_4 rfl rfl ?_
  refine r_iload_n 2 dX11_grain_5 rfl rfl ?_
  obtain ⟨x21, hx21, h⟩ := b1_some h
  refine r_callVi (k := 1) (rest := []) (by omega) (mX1_hasSquare is_1 hx21) sX_1 rfl rfl cb_X1_hasSquare ml_X11_114 im_X1_hasSquare se_X1_hasSquare rfl rfl (Nat.le_of_ble_eq_true rfl) dX11_grain_6 ?_
  refine r_if_eq 22 dX11_grain_9 (by decide) (fun c28 => ?_) (fun c28 => ?_)
  · rw [if_pos c28] at h
    refine r_iconst (v := (-1)) dX11_grain_22 rfl ?_
    obtain rfl := Option.some.inj h
    exact r_ireturn rfl dX11_grain_23 (hp)
  · rw [if_neg c28] at h
    refine r_iload_n 3 dX11_grain_12 rfl rfl ?_
    refine r_iconst (v := 0) dX11_grain_13 rfl ?_
    refine r_bipush (v := 9) dX11_grain_14 rfl ?_
    obtain ⟨x22, hx22, h⟩ := b1_some h
    refine r_callSi (rest := []) (by omega) (mX11_within hx22) cb_X11_within ml_X11_103 sm_X11_within rfl rfl (Nat.le_of_ble_eq_true rfl) dX11_grain_16 ?_
    refine r_if_ne 24 dX11_grain_19 (by decide) (fun c27 => ?_) (fun c27 => ?_)
    · rw [if_neg c27] at h
      refine r_aload_n 0 dX11_grain_24 rfl rfl ?_
      refine r_getC (k := 0) (j := 1) (r := 3) sX_0 rfl fl_X11_19 dX11_grain_25 ?_
      refine r_aload_n 0 dX11_grain_28 rfl rfl ?_
      refine r_getC (k := 0) (j := 0) (r := 1) sX_0 rfl fl_X11_10 dX11_grain_29 ?_
      obtain ⟨S23, hS23, h⟩ := b1_some h
      refine r_callVv (k := 3) (rest := []) (by omega) (mX0_keep is_1 hS23) sX_3 rfl rfl cb_X0_keep ml_X11_118 im_X0_keep se_X0_keep rfl rfl (Nat.le_of_ble_eq_true rfl) dX11_grain_32 ?_
      refine r_iload_n 1 dX11_grain_35 rfl rfl ?_
      refine r_iload_n 2 dX11_grain_36 rfl rfl ?_
      obtain ⟨x24, hx24, h⟩ := b1_some h
      refine r_callSi (rest := []) (by omega) (mX11_squareAt hx24) cb_X11_squareAt ml_X11_134 sm_X11_squareAt rfl rfl (Nat.le_of_ble_eq_true rfl) dX11_grain_37 ?_
      refine r_istore (i := 4) [(0, .ref (ad_ G 0)), (1, .int v1), (2, .int v2), (3, .int v3), (4, .int x24)] [1, 2, 3, 4, 0] dX11_grain_40 (by decide) rfl ?_
      refine r_aload_n 0 dX11_grain_42 rfl rfl ?_
      refine r_getC (k := 0) (j := 0) (r := 1) sX_0 rfl fl_X11_10 dX11_grain_43 ?_
      refine r_getC (k := 1) (j := 3) (r := 2) sX_1 rfl fl_X11_138 dX11_grain_46 ?_
      refine r_iload 4 dX11_grain_49 rfl ?_
      obtain ⟨x25, hx25, h⟩ := b1_some h
      refine r_iaload sX_2 hx25 dX11_grain_51 ?_
      refine r_istore (i := 5) [(0, .ref (ad_ G 0)), (1, .int v1), (2, .int v2), (3, .int v3), (4, .int x24), (5, .int x25)] [1, 2, 3, 4, 5, 0] dX11_grain_52 (by decide) rfl ?_
      refine r_aload_n 0 dX11_grain_54 rfl rfl ?_
      refine r_getC (k := 0) (j := 0) (r := 1) sX_0 rfl fl_X11_10 dX11_grain_55 ?_
      refine r_getC (k := 1) (j := 3) (r := 2) sX_1 rfl fl_X11_138 dX11_grain_58 ?_
      refine r_iload 4 dX11_grain_61 rfl ?_
      refine r_iload_n 3 dX11_grain_63 rfl rfl ?_
      obtain ⟨S26, hS26, h⟩ := b1_some h
      refine r_iastore sX_2 hS26 dX11_grain_64 ?_
      refine r_iload 5 dX11_grain_65 rfl ?_
      obtain rfl := Option.some.inj h
      exact r_ireturn rfl dX11_grain_67 (hp)
    · rw [if_pos c27] at h
      refine r_iconst (v := (-1)) dX11_grain_22 rfl ?_
      obtain rfl := Option.some.inj h
      exact r_ireturn rfl dX11_grain_23 (hp)
theorem mX11_grain {G : Gx} {S : St} {v1 : Int32} {v2 : Int32} {v3 : Int32} {o : (Int32 × St)}  (h : fX11_grain S v1 v2 v3 = some o) : MR_ G shX 3 yX11_grain cX11_grain 6 (some .int) [.ref (ad_ G 0), .int v1, .int v2, .int v3] S (PI_ o.1 o.2) := MR_of cb_X11_grain (Nat.le_of_ble_eq_true rfl) [(0, .ref (ad_ G 0)), (1, .int v1), (2, .int v2), (3, .int v3)] rfl (tX11_grain  h ⟨rfl, rfl⟩)
set_option maxRecDepth 100000 in
set_option maxHeartbeats 4000000 in
theorem tX7_add {G : Gx} {post : Option Value → St → Prop} {S : St} {v1 : Int32} {v2 : Int32} {v3 : Int32} {v4 : Int32} {v5 : Int32} {o : (Int32 × St)}  (h : fX7_add S v1 v2 v3 v4 v5 = some o) (hp : post (some (.int o.1)) o.2) : Rn G shX 0 yX7_add cX7_add 6 (some .int) 0 [(0, .ref (ad_ G 21)), (1, .int v1), (2, .int v2), (3, .int v3), (4, .int v4), (5, .int v5)] [] S post := by
  unfold fX7_add at h
  refine r_aload_n 0 dX7_add_0 rfl rfl ?_
  refine r_getC (k := 21) (j := 0) (r := 22) sX_21 rfl fl_X7_9 dX7_add_1 ?_
  refine r_aload_n 0 dX7_add_4 rfl rfl ?_
  refine r_getI (k := 21) (j := 5) sX_21 rfl fl_X7_28 dX7_add_5 ?_
  refine r_iload_n 1 dX7_add_8 rfl rfl ?_
  obtain ⟨S21, hS21, h⟩ := b1_some h
  refine r_iastore sX_22 hS21 dX7_add_9 ?_
  refine r_aload_n 0 dX7_add_10 rfl rfl ?_
  refine r_getC (k := 21) (j := 1) (r := 23) sX_21 rfl fl_X7_15 dX7_add_11 ?_
  refine r_aload_n 0 dX7_add_14 rfl rfl ?_
  refine r_getI (k := 21) (j := 5) sX_21 rfl fl_X7_28 dX7_add_15 ?_
  refine r_iload_n 2 dX7_add_18 rfl rfl ?_
  obtain ⟨S22, hS22, h⟩ := b1_some h
  refine r_iastore sX_23 hS22 dX7_add_19 ?_
  refine r_aload_n 0 dX7_add_20 rfl rfl ?_
  refine r_getC (k := 21) (j := 2) (r := 24) sX_21 rfl fl_X7_18 dX7_add_21 ?_
  refine r_aload_n 0 dX7_add_24 rfl rfl ?_
  refine r_getI (k := 21) (j := 5) sX_21 rfl fl_X7_28 dX7_add_25 ?_
  refine r_iload_n 3 dX7_add_28 rfl rfl ?_
  obtain ⟨S23, hS23, h⟩ := b1_some h
  refine r_iastore sX_24 hS23 dX7_add_29 ?_
  refine r_aload_n 0 dX7_add_30 rfl rfl ?_
  refine r_getC (k := 21) (j := 3) (r := 25) sX_21 rfl fl_X7_21 dX7_add_31 ?_
  refine r_aload_n 0 dX7_add_34 rfl rfl ?_
  refine r_getI (k := 21) (j := 5) sX_21 rfl fl_X7_28 dX7_add_35 ?_
  refine r_iload 4 dX7_add_38 rfl ?_
  obtain ⟨S24, hS24, h⟩ := b1_some h
  refine r_iastore sX_25 hS24 dX7_add_40 ?_
  refine r_aload_n 0 dX7_add_41 rfl rfl ?_
  refine r_getC (k := 21) (j := 4) (r := 26) sX_21 rfl fl_X7_24 dX7_add_42 ?_
  refine r_aload_n 0 dX7_add_45 rfl rfl ?_
  refine r_getI (k := 21) (j := 5) sX_21 rfl fl_X7_28 dX7_add_46 ?_
  refine r_iload 5 dX7_add_49 rfl ?_
  obtain ⟨S25, hS25, h⟩ := b1_some h
  refine r_zastore sX_26 hS25 dX7_add_51 ?_
  refine r_aload_n 0 dX7_add_52 rfl rfl ?_
  refine r_dup dX7_add_53 rfl ?_
  refine r_getI (k := 21) (j := 5) sX_21 rfl fl_X7_28 dX7_add_54 ?_
  refine r_iconst (v := 1) dX7_add_57 rfl ?_
  refine r_iadd dX7_add_58 ?_
  obtain ⟨S26, hS26, h⟩ := b1_some h
  refine r_setI (k := 21) (j := 5) sX_21 rfl pf_X7_28 hS26 dX7_add_59 ?_
  refine r_aload_n 0 dX7_add_62 rfl rfl ?_
  refine r_getI (k := 21) (j := 5) sX_21 rfl fl_X7_28 dX7_add_63 ?_
  refine r_iconst (v := 1) dX7_add_66 rfl ?_
  refine r_isub dX7_add_67 ?_
  obtain rfl := Option.some.inj h
  exact r_ireturn rfl dX7_add_68 (hp)
theorem mX7_add {G : Gx} {S : St} {v1 : Int32} {v2 : Int32} {v3 : Int32} {v4 : Int32} {v5 : Int32} {o : (Int32 × St)}  (h : fX7_add S v1 v2 v3 v4 v5 = some o) : MR_ G shX 0 yX7_add cX7_add 6 (some .int) [.ref (ad_ G 21), .int v1, .int v2, .int v3, .int v4, .int v5] S (PI_ o.1 o.2) := MR_of cb_X7_add (Nat.le_of_ble_eq_true rfl) [(0, .ref (ad_ G 21)), (1, .int v1), (2, .int v2), (3, .int v3), (4, .int v4), (5, .int v5)] rfl (tX7_add  h ⟨rfl, rfl⟩)
set_option maxRecDepth 100000 in
set_option maxHeartbeats 4000000 in
theorem tX11_shape {G : Gx} {post : Option Value → St → Prop} {S : St} {v1 : Int32} {v2 : Int32} {v3 : Int32} {v4 : Int32} {v5 : Int32} {o : (Int32 × St)}  (h : fX11_shape S v1 v2 v3 v4 v5 = some o) (hp : post (some (.int o.1)) o.2) : Rn G shX 1 yX11_shape cX11_shape 6 (some .int) 0 [(0, .ref (ad_ G 0)), (1, .int v1), (2, .int v2), (3, .int v3), (4, .int v4), (5, .int v5)] [] S post := by
  unfold fX11_shape at h
  refine r_iload_n 1 dX11_shape_0 rfl rfl ?_
  refine r_iconst (v := 1) dX11_shape_1 rfl ?_
  refine r_bipush (v := 8) dX11_shape_2 rfl ?_
  obtain ⟨x21, hx21, h⟩ := b1_some h
  refine r_callSi (rest := []) (by omega) (mX11_within hx21) cb_X11_within ml_X11_103 sm_X11_within rfl rfl (Nat.le_of_ble_eq_true rfl) dX11_shape_4 ?_
  refine r_if_eq 42 dX11_shape_7 (by decide) (fun c30 => ?_) (fun c30 => ?_)
  · rw [if_pos c30] at h
    refine r_iconst (v := (-1)) dX11_shape_42 rfl ?_
    obtain rfl := Option.some.inj h
    exact r_ireturn rfl dX11_shape_43 (hp)
  · rw [if_neg c30] at h
    refine r_iload_n 2 dX11_shape_10 rfl rfl ?_
    refine r_iconst (v := 1) dX11_shape_11 rfl ?_
    refine r_bipush (v := 8) dX11_shape_12 rfl ?_
    obtain ⟨x22, hx22, h⟩ := b1_some h
    refine r_callSi (rest := []) (by omega) (mX11_within hx22) cb_X11_within ml_X11_103 sm_X11_within rfl rfl (Nat.le_of_ble_eq_true rfl) dX11_shape_14 ?_
    refine r_if_eq 42 dX11_shape_17 (by decide) (fun c29 => ?_) (fun c29 => ?_)
    · rw [if_pos c29] at h
      refine r_iconst (v := (-1)) dX11_shape_42 rfl ?_
      obtain rfl := Option.some.inj h
      exact r_ireturn rfl dX11_shape_43 (hp)
    · rw [if_neg c29] at h
      refine r_iload_n 3 dX11_shape_20 rfl rfl ?_
      refine r_iconst (v := 1) dX11_shape_21 rfl ?_
      refine r_sipush (v := 500) dX11_shape_22 rfl ?_
      obtain ⟨x23, hx23, h⟩ := b1_some h
      refine r_callSi (rest := []) (by omega) (mX11_within hx23) cb_X11_within ml_X11_103 sm_X11_within rfl rfl (Nat.le_of_ble_eq_true rfl) dX11_shape_25 ?_
      refine r_if_eq 42 dX11_shape_28 (by decide) (fun c28 => ?_) (fun c28 => ?_)
      · rw [if_pos c28] at h
        refine r_iconst (v := (-1)) dX11_shape_42 rfl ?_
        obtain rfl := Option.some.inj h
        exact r_ireturn rfl dX11_shape_43 (hp)
      · rw [if_neg c28] at h
        refine r_iload 4 dX11_shape_31 rfl ?_
        refine r_iconst (v := 0) dX11_shape_33 rfl ?_
        refine r_bipush (v := 9) dX11_shape_34 rfl ?_
        obtain ⟨x24, hx24, h⟩ := b1_some h
        refine r_callSi (rest := []) (by omega) (mX11_within hx24) cb_X11_within ml_X11_103 sm_X11_within rfl rfl (Nat.le_of_ble_eq_true rfl) dX11_shape_36 ?_
        refine r_if_ne 44 dX11_shape_39 (by decide) (fun c27 => ?_) (fun c27 => ?_)
        · rw [if_neg c27] at h
          refine r_aload_n 0 dX11_shape_44 rfl rfl ?_
          refine r_getC (k := 0) (j := 2) (r := 21) sX_0 rfl fl_X11_26 dX11_shape_45 ?_
          refine r_getI (k := 21) (j := 5) sX_21 rfl fl_X11_142 dX11_shape_48 ?_
          refine r_bipush (v := 8) dX11_shape_51 rfl ?_
          refine r_icmp_lt 59 dX11_shape_53 (by decide) (fun c26 => ?_) (fun c26 => ?_)
          · rw [if_pos c26] at h
            refine r_aload_n 0 dX11_shape_59 rfl rfl ?_
            refine r_getC (k := 0) (j := 2) (r := 21) sX_0 rfl fl_X11_26 dX11_shape_60 ?_
            refine r_iload_n 1 dX11_shape_63 rfl rfl ?_
            refine r_iload_n 2 dX11_shape_64 rfl rfl ?_
            refine r_iload_n 3 dX11_shape_65 rfl rfl ?_
            refine r_iload 4 dX11_shape_66 rfl ?_
            refine r_iload 5 dX11_shape_68 rfl ?_
            obtain ⟨q25, hq25, h⟩ := b1_some h
            refine r_callVi (k := 21) (rest := []) (by omega) (mX7_add hq25) sX_21 rfl rfl cb_X7_add ml_X11_143 im_X7_add se_X7_add rfl rfl (Nat.le_of_ble_eq_true rfl) dX11_shape_70 ?_
            obtain rfl := Option.some.inj h
            exact r_ireturn rfl dX11_shape_73 (hp)
          · rw [if_neg c26] at h
            refine r_bipush (v := (-3)) dX11_shape_56 rfl ?_
            obtain rfl := Option.some.inj h
            exact r_ireturn rfl dX11_shape_58 (hp)
        · rw [if_pos c27] at h
          refine r_iconst (v := (-1)) dX11_shape_42 rfl ?_
          obtain rfl := Option.some.inj h
          exact r_ireturn rfl dX11_shape_43 (hp)
theorem mX11_shape {G : Gx} {S : St} {v1 : Int32} {v2 : Int32} {v3 : Int32} {v4 : Int32} {v5 : Int32} {o : (Int32 × St)}  (h : fX11_shape S v1 v2 v3 v4 v5 = some o) : MR_ G shX 1 yX11_shape cX11_shape 6 (some .int) [.ref (ad_ G 0), .int v1, .int v2, .int v3, .int v4, .int v5] S (PI_ o.1 o.2) := MR_of cb_X11_shape (Nat.le_of_ble_eq_true rfl) [(0, .ref (ad_ G 0)), (1, .int v1), (2, .int v2), (3, .int v3), (4, .int v4), (5, .int v5)] rfl (tX11_shape  h ⟨rfl, rfl⟩)
set_option maxRecDepth 100000 in
set_option maxHeartbeats 4000000 in
theorem tX4_want {G : Gx} {post : Option Value → St → Prop} {S : St} {v1 : Int32} {o : Int32}  (h : fX4_want S v1 = some o) (hp : post (some (.int o)) S) : Rn G shX 0 yX4_want cX4_want 3 (some .boolean) 0 [(0, .ref (ad_ G 42)), (1, .int v1)] [] S post := by
  unfold fX4_want at h
  refine r_iconst (v := 0) dX4_want_0 rfl ?_
  refine r_istore_n (i := 2) [(0, .ref (ad_ G 42)), (1, .int v1), (2, .int 0)] [1, 2, 0] dX4_want_1 rfl (by decide) rfl ?_
  have key : ∀ ex, lp (fun w21 : Int32 => bX4_want_2 S v1 w21) 5000 0 = some ex → (fun ex : (Unit) ⊕ Int32 => match ex with | .inl u26 => Rn G shX 0 yX4_want cX4_want 3 (some .boolean) 28 [] [] S post | .inr rr => post (some (.int rr)) S) ex → Rn G shX 0 yX4_want cX4_want 3 (some .boolean) 2 [(0, .ref (ad_ G 42)), (1, .int v1), (2, .int 0)] [] S post := by
    intro ex hl hx
    refine lp_rule (body := (fun w21 : Int32 => bX4_want_2 S v1 w21)) (R := (fun w21 : Int32 => Rn G shX 0 yX4_want cX4_want 3 (some .boolean) 2 [(0, .ref (ad_ G 42)), (1, .int v1), (2, .int w21)] [] S post)) (X := (fun ex : (Unit) ⊕ Int32 => match ex with | .inl u26 => Rn G shX 0 yX4_want cX4_want 3 (some .boolean) 28 [] [] S post | .inr rr => post (some (.int rr)) S)) ?_ 5000 0 ex hl hx
    intro w21 oo h hB hX
    obtain ⟨v22, rfl⟩ : ∃ z, z = w21 := ⟨_, rfl⟩
    replace h : bX4_want_2 S v1 v22 = some oo := h
    unfold bX4_want_2 at h
    show Rn G shX 0 yX4_want cX4_want 3 (some .boolean) 2 [(0, .ref (ad_ G 42)), (1, .int v1), (2, .int v22)] [] S post
    refine r_iload_n 2 dX4_want_2 rfl rfl ?_
    refine r_aload_n 0 dX4_want_3 rfl rfl ?_
    refine r_getI (k := 42) (j := 5) sX_42 rfl fl_X4_21 dX4_want_4 ?_
    refine r_icmp_ge 28 dX4_want_7 (by decide) (fun c25 => ?_) (fun c25 => ?_)
    · rw [if_pos c25] at h
      refine r_sub [] [] rfl ?_
      obtain rfl := Option.some.inj h
      exact hX (.inl ()) rfl
    · rw [if_neg c25] at h
      refine r_aload_n 0 dX4_want_10 rfl rfl ?_
      refine r_getC (k := 42) (j := 2) (r := 43) sX_42 rfl fl_X4_9 dX4_want_11 ?_
      refine r_iload_n 2 dX4_want_14 rfl rfl ?_
      obtain ⟨x23, hx23, h⟩ := b1_some h
      refine r_iaload sX_43 hx23 dX4_want_15 ?_
      refine r_iload_n 1 dX4_want_16 rfl rfl ?_
      refine r_icmp_ne 22 dX4_want_17 (by decide) (fun c24 => ?_) (fun c24 => ?_)
      · rw [if_neg c24] at h
        refine r_iinc (v := v22 + 1) [(0, .ref (ad_ G 42)), (1, .int v1), (2, .int (v22 + 1))] 2 [1, 2, 0] dX4_want_22 rfl rfl (by decide) rfl ?_
        refine r_goto 2 dX4_want_25 (by decide) ?_
        obtain rfl := Option.some.inj h
        exact hB (v22 + 1) rfl
      · rw [if_pos c24] at h
        refine r_iconst (v := 1) dX4_want_20 rfl ?_
        obtain rfl := Option.some.inj h
        exact r_zreturn rfl (by decide) dX4_want_21 (hX (.inr 1) rfl)
  rcases bs_some h with ⟨u26, hu26, h⟩ | ⟨rr, hu26, h⟩
  · refine key _ hu26 ?_
    show Rn G shX 0 yX4_want cX4_want 3 (some .boolean) 28 [] [] S post
    refine r_iconst (v := 0) dX4_want_28 rfl ?_
    obtain rfl := Option.some.inj h
    exact r_zreturn rfl (by decide) dX4_want_29 (hp)
  · refine key _ hu26 ?_
    show post (some (.int rr)) S
    obtain rfl := Option.some.inj h
    exact hp
theorem mX4_want {G : Gx} {S : St} {v1 : Int32} {o : Int32}  (h : fX4_want S v1 = some o) : MR_ G shX 0 yX4_want cX4_want 3 (some .boolean) [.ref (ad_ G 42), .int v1] S (PI_ o S) := MR_of cb_X4_want (Nat.le_of_ble_eq_true rfl) [(0, .ref (ad_ G 42)), (1, .int v1)] rfl (tX4_want  h ⟨rfl, rfl⟩)
set_option maxRecDepth 100000 in
set_option maxHeartbeats 4000000 in
theorem tX11_drop {G : Gx} {post : Option Value → St → Prop} {S : St} {o : (Int32 × St)}  (h : fX11_drop S = some o) (hp : post (some (.int o.1)) o.2) : Rn G shX 1 yX11_drop cX11_drop 1 (some .int) 0 [(0, .ref (ad_ G 0))] [] S post := by
  unfold fX11_drop at h
  refine r_aload_n 0 dX11_drop_0 rfl rfl ?_
  refine r_getC (k := 0) (j := 2) (r := 21) sX_0 rfl fl_X11_26 dX11_drop_1 ?_
  refine r_getI (k := 21) (j := 5) sX_21 rfl fl_X11_142 dX11_drop_4 ?_
  refine r_if_ne 13 dX11_drop_7 (by decide) (fun c24 => ?_) (fun c24 => ?_)
  · rw [if_neg c24] at h
    refine r_aload_n 0 dX11_drop_13 rfl rfl ?_
    refine r_getC (k := 0) (j := 7) (r := 42) sX_0 rfl fl_X11_59 dX11_drop_14 ?_
    refine r_aload_n 0 dX11_drop_17 rfl rfl ?_
    refine r_getC (k := 0) (j := 2) (r := 21) sX_0 rfl fl_X11_26 dX11_drop_18 ?_
    refine r_getI (k := 21) (j := 5) sX_21 rfl fl_X11_142 dX11_drop_21 ?_
    refine r_iconst (v := 1) dX11_drop_24 rfl ?_
    refine r_isub dX11_drop_25 ?_
    obtain ⟨x21, hx21, h⟩ := b1_some h
    refine r_callVi (k := 42) (rest := []) (by omega) (mX4_want hx21) sX_42 rfl rfl cb_X4_want ml_X11_147 im_X4_want se_X4_want rfl rfl (Nat.le_of_ble_eq_true rfl) dX11_drop_26 ?_
    refine r_if_eq 35 dX11_drop_29 (by decide) (fun c23 => ?_) (fun c23 => ?_)
    · rw [if_pos c23] at h
      refine r_aload_n 0 dX11_drop_35 rfl rfl ?_
      refine r_getC (k := 0) (j := 2) (r := 21) sX_0 rfl fl_X11_26 dX11_drop_36 ?_
      refine r_dup dX11_drop_39 rfl ?_
      refine r_getI (k := 21) (j := 5) sX_21 rfl fl_X11_142 dX11_drop_40 ?_
      refine r_iconst (v := 1) dX11_drop_43 rfl ?_
      refine r_isub dX11_drop_44 ?_
      obtain ⟨S22, hS22, h⟩ := b1_some h
      refine r_setI (k := 21) (j := 5) sX_21 rfl pf_X11_142 hS22 dX11_drop_45 ?_
      refine r_aload_n 0 dX11_drop_48 rfl rfl ?_
      refine r_getC (k := 0) (j := 2) (r := 21) sX_0 rfl fl_X11_26 dX11_drop_49 ?_
      refine r_getI (k := 21) (j := 5) sX_21 rfl fl_X11_142 dX11_drop_52 ?_
      obtain rfl := Option.some.inj h
      exact r_ireturn rfl dX11_drop_55 (hp)
    · rw [if_neg c23] at h
      refine r_bipush (v := (-2)) dX11_drop_32 rfl ?_
      obtain rfl := Option.some.inj h
      exact r_ireturn rfl dX11_drop_34 (hp)
  · rw [if_pos c24] at h
    refine r_bipush (v := (-4)) dX11_drop_10 rfl ?_
    obtain rfl := Option.some.inj h
    exact r_ireturn rfl dX11_drop_12 (hp)
theorem mX11_drop {G : Gx} {S : St} {o : (Int32 × St)}  (h : fX11_drop S = some o) : MR_ G shX 1 yX11_drop cX11_drop 1 (some .int) [.ref (ad_ G 0)] S (PI_ o.1 o.2) := MR_of cb_X11_drop (Nat.le_of_ble_eq_true rfl) [(0, .ref (ad_ G 0))] rfl (tX11_drop  h ⟨rfl, rfl⟩)
set_option maxRecDepth 100000 in
set_option maxHeartbeats 4000000 in
theorem tX1_hasBlock {G : Gx} {post : Option Value → St → Prop} {k0 : Nat} {S : St} {v1 : Int32} {v2 : Int32} {v3 : Int32} {v4 : Int32} {o : Int32} (hk0 : IsBd k0) (h : fX1_hasBlock k0 S v1 v2 v3 v4 = some o) (hp : post (some (.int o)) S) : Rn G shX 1 yX1_hasBlock cX1_hasBlock 5 (some .boolean) 0 [(0, .ref (ad_ G k0)), (1, .int v1), (2, .int v2), (3, .int v3), (4, .int v4)] [] S post := by
  unfold fX1_hasBlock at h
  refine r_iload_n 3 dX1_hasBlock_0 rfl rfl ?_
  refine r_iconst (v := 1) dX1_hasBlock_1 rfl ?_
  refine r_aload_n 0 dX1_hasBlock_2 rfl rfl ?_
  refine r_getI (k := k0) (j := 0) hk0.1 rfl fl_X1_9 dX1_hasBlock_3 ?_
  obtain ⟨x21, hx21, h⟩ := b1_some h
  refine r_callSNi (rest := []) (by omega) (mX11_within hx21) cb_X11_within (by decide) sm_X11_within rfl rfl (Nat.le_of_ble_eq_true rfl) dX1_hasBlock_6 ?_
  refine r_if_eq 58 dX1_hasBlock_9 (by decide) (fun c28 => ?_) (fun c28 => ?_)
  · rw [if_pos c28] at h
    refine r_iconst (v := 0) dX1_hasBlock_58 rfl ?_
    obtain rfl := Option.some.inj h
    exact r_zreturn rfl (by decide) dX1_hasBlock_59 (hp)
  · rw [if_neg c28] at h
    refine r_iload 4 dX1_hasBlock_12 rfl ?_
    refine r_iconst (v := 1) dX1_hasBlock_14 rfl ?_
    refine r_aload_n 0 dX1_hasBlock_15 rfl rfl ?_
    refine r_getI (k := k0) (j := 1) hk0.1 rfl fl_X1_15 dX1_hasBlock_16 ?_
    obtain ⟨x22, hx22, h⟩ := b1_some h
    refine r_callSNi (rest := []) (by omega) (mX11_within hx22) cb_X11_within (by decide) sm_X11_within rfl rfl (Nat.le_of_ble_eq_true rfl) dX1_hasBlock_19 ?_
    refine r_if_eq 58 dX1_hasBlock_22 (by decide) (fun c27 => ?_) (fun c27 => ?_)
    · rw [if_pos c27] at h
      refine r_iconst (v := 0) dX1_hasBlock_58 rfl ?_
      obtain rfl := Option.some.inj h
      exact r_zreturn rfl (by decide) dX1_hasBlock_59 (hp)
    · rw [if_neg c27] at h
      refine r_iload_n 1 dX1_hasBlock_25 rfl rfl ?_
      refine r_iconst (v := 0) dX1_hasBlock_26 rfl ?_
      refine r_aload_n 0 dX1_hasBlock_27 rfl rfl ?_
      refine r_getI (k := k0) (j := 0) hk0.1 rfl fl_X1_9 dX1_hasBlock_28 ?_
      refine r_iload_n 3 dX1_hasBlock_31 rfl rfl ?_
      refine r_isub dX1_hasBlock_32 ?_
      obtain ⟨x23, hx23, h⟩ := b1_some h
      refine r_callSNi (rest := []) (by omega) (mX11_within hx23) cb_X11_within (by decide) sm_X11_within rfl rfl (Nat.le_of_ble_eq_true rfl) dX1_hasBlock_33 ?_
      refine r_if_eq 58 dX1_hasBlock_36 (by decide) (fun c26 => ?_) (fun c26 => ?_)
      · rw [if_pos c26] at h
        refine r_iconst (v := 0) dX1_hasBlock_58 rfl ?_
        obtain rfl := Option.some.inj h
        exact r_zreturn rfl (by decide) dX1_hasBlock_59 (hp)
      · rw [if_neg c26] at h
        refine r_iload_n 2 dX1_hasBlock_39 rfl rfl ?_
        refine r_iconst (v := 0) dX1_hasBlock_40 rfl ?_
        refine r_aload_n 0 dX1_hasBlock_41 rfl rfl ?_
        refine r_getI (k := k0) (j := 1) hk0.1 rfl fl_X1_15 dX1_hasBlock_42 ?_
        refine r_iload 4 dX1_hasBlock_45 rfl ?_
        refine r_isub dX1_hasBlock_47 ?_
        obtain ⟨x24, hx24, h⟩ := b1_some h
        refine r_callSNi (rest := []) (by omega) (mX11_within hx24) cb_X11_within (by decide) sm_X11_within rfl rfl (Nat.le_of_ble_eq_true rfl) dX1_hasBlock_48 ?_
        refine r_if_eq 58 dX1_hasBlock_51 (by decide) (fun c25 => ?_) (fun c25 => ?_)
        · rw [if_pos c25] at h
          refine r_iconst (v := 0) dX1_hasBlock_58 rfl ?_
          obtain rfl := Option.some.inj h
          exact r_zreturn rfl (by decide) dX1_hasBlock_59 (hp)
        · rw [if_neg c25] at h
          refine r_iconst (v := 1) dX1_hasBlock_54 rfl ?_
          refine r_goto 59 dX1_hasBlock_55 (by decide) ?_
          obtain rfl := Option.some.inj h
          exact r_zreturn rfl (by decide) dX1_hasBlock_59 (hp)
theorem mX1_hasBlock {G : Gx} {k0 : Nat} {S : St} {v1 : Int32} {v2 : Int32} {v3 : Int32} {v4 : Int32} {o : Int32} (hk0 : IsBd k0) (h : fX1_hasBlock k0 S v1 v2 v3 v4 = some o) : MR_ G shX 1 yX1_hasBlock cX1_hasBlock 5 (some .boolean) [.ref (ad_ G k0), .int v1, .int v2, .int v3, .int v4] S (PI_ o S) := MR_of cb_X1_hasBlock (Nat.le_of_ble_eq_true rfl) [(0, .ref (ad_ G k0)), (1, .int v1), (2, .int v2), (3, .int v3), (4, .int v4)] rfl (tX1_hasBlock hk0 h ⟨rfl, rfl⟩)
set_option maxRecDepth 100000 in
set_option maxHeartbeats 4000000 in
theorem tX7_has {G : Gx} {post : Option Value → St → Prop} {S : St} {v1 : Int32} {o : Int32}  (h : fX7_has S v1 = some o) (hp : post (some (.int o)) S) : Rn G shX 1 yX7_has cX7_has 2 (some .boolean) 0 [(0, .ref (ad_ G 21)), (1, .int v1)] [] S post := by
  unfold fX7_has at h
  refine r_iload_n 1 dX7_has_0 rfl rfl ?_
  refine r_iconst (v := 0) dX7_has_1 rfl ?_
  refine r_aload_n 0 dX7_has_2 rfl rfl ?_
  refine r_getI (k := 21) (j := 5) sX_21 rfl fl_X7_28 dX7_has_3 ?_
  refine r_iconst (v := 1) dX7_has_6 rfl ?_
  refine r_isub dX7_has_7 ?_
  obtain ⟨x21, hx21, h⟩ := b1_some h
  refine r_callSNi (rest := []) (by omega) (mX11_within hx21) cb_X11_within (by decide) sm_X11_within rfl rfl (Nat.le_of_ble_eq_true rfl) dX7_has_8 ?_
  obtain ⟨z22, hz22, h⟩ := b1_some h
  obtain ⟨ez22, nz22⟩ := bz_some hz22
  rw [ez22] at h
  obtain rfl := Option.some.inj h
  exact r_zreturn rfl nz22 dX7_has_11 (hp)
theorem mX7_has {G : Gx} {S : St} {v1 : Int32} {o : Int32}  (h : fX7_has S v1 = some o) : MR_ G shX 1 yX7_has cX7_has 2 (some .boolean) [.ref (ad_ G 21), .int v1] S (PI_ o S) := MR_of cb_X7_has (Nat.le_of_ble_eq_true rfl) [(0, .ref (ad_ G 21)), (1, .int v1)] rfl (tX7_has  h ⟨rfl, rfl⟩)
set_option maxRecDepth 100000 in
set_option maxHeartbeats 4000000 in
theorem tX7_isOf {G : Gx} {post : Option Value → St → Prop} {S : St} {v1 : Int32} {v2 : Int32} {v3 : Int32} {o : Int32}  (h : fX7_isOf S v1 v2 v3 = some o) (hp : post (some (.int o)) S) : Rn G shX 0 yX7_isOf cX7_isOf 4 (some .boolean) 0 [(0, .ref (ad_ G 21)), (1, .int v1), (2, .int v2), (3, .int v3)] [] S post := by
  unfold fX7_isOf at h
  refine r_aload_n 0 dX7_isOf_0 rfl rfl ?_
  refine r_getC (k := 21) (j := 0) (r := 22) sX_21 rfl fl_X7_9 dX7_isOf_1 ?_
  refine r_iload_n 1 dX7_isOf_4 rfl rfl ?_
  obtain ⟨x21, hx21, h⟩ := b1_some h
  refine r_iaload sX_22 hx21 dX7_isOf_5 ?_
  refine r_iload_n 2 dX7_isOf_6 rfl rfl ?_
  have key : ∀ ex, ((if x21 = v2 then b1 (rI_ S 23 8 v1) fun x29 => (if x29 = v3 then some (.inr 1) else some (.inl ())) else some (.inl ())) : Option ((Unit) ⊕ Int32)) = some ex → (∀ w22, ex = .inl w22 → Rn G shX 0 yX7_isOf cX7_isOf 4 (some .boolean) 20 [(0, .ref (ad_ G 21)), (1, .int v1), (2, .int v2), (3, .int v3)] [] S post) → (∀ r32, ex = .inr r32 → post (some (.int r32)) S) → Rn G shX 0 yX7_isOf cX7_isOf 4 (some .boolean) 7 [(0, .ref (ad_ G 21)), (1, .int v1), (2, .int v2), (3, .int v3)] [.int v2, .int x21] S post := by
    intro ex h hJ0 hR
    refine r_icmp_ne 20 dX7_isOf_7 (by decide) (fun c31 => ?_) (fun c31 => ?_)
    · rw [if_neg c31] at h
      obtain rfl := Option.some.inj h
      exact hJ0 _ rfl
    · rw [if_pos c31] at h
      refine r_aload_n 0 dX7_isOf_10 rfl rfl ?_
      refine r_getC (k := 21) (j := 1) (r := 23) sX_21 rfl fl_X7_15 dX7_isOf_11 ?_
      refine r_iload_n 1 dX7_isOf_14 rfl rfl ?_
      obtain ⟨x29, hx29, h⟩ := b1_some h
      refine r_iaload sX_23 hx29 dX7_isOf_15 ?_
      refine r_iload_n 3 dX7_isOf_16 rfl rfl ?_
      refine r_icmp_eq 49 dX7_isOf_17 (by decide) (fun c30 => ?_) (fun c30 => ?_)
      · rw [if_pos c30] at h
        refine r_iconst (v := 1) dX7_isOf_49 rfl ?_
        refine r_goto 54 dX7_isOf_50 (by decide) ?_
        obtain rfl := Option.some.inj h
        exact r_zreturn rfl (by decide) dX7_isOf_54 (hR 1 rfl)
      · rw [if_neg c30] at h
        obtain rfl := Option.some.inj h
        exact hJ0 _ rfl
  rcases bs_some h with ⟨w22, hw22, h⟩ | ⟨r32, hw22, h⟩
  · refine key _ hw22 (fun z ez => ?_) (fun z ez => by cases ez)
    cases ez
    refine r_aload_n 0 dX7_isOf_20 rfl rfl ?_
    refine r_getC (k := 21) (j := 4) (r := 26) sX_21 rfl fl_X7_24 dX7_isOf_21 ?_
    refine r_iload_n 1 dX7_isOf_24 rfl rfl ?_
    obtain ⟨x23, hx23, h⟩ := b1_some h
    refine r_zaload sX_26 hx23 dX7_isOf_25 ?_
    refine r_if_eq 53 dX7_isOf_26 (by decide) (fun c28 => ?_) (fun c28 => ?_)
    · rw [if_pos c28] at h
      refine r_iconst (v := 0) dX7_isOf_53 rfl ?_
      obtain rfl := Option.some.inj h
      exact r_zreturn rfl (by decide) dX7_isOf_54 (hp)
    · rw [if_neg c28] at h
      refine r_aload_n 0 dX7_isOf_29 rfl rfl ?_
      refine r_getC (k := 21) (j := 0) (r := 22) sX_21 rfl fl_X7_9 dX7_isOf_30 ?_
      refine r_iload_n 1 dX7_isOf_33 rfl rfl ?_
      obtain ⟨x24, hx24, h⟩ := b1_some h
      refine r_iaload sX_22 hx24 dX7_isOf_34 ?_
      refine r_iload_n 3 dX7_isOf_35 rfl rfl ?_
      refine r_icmp_ne 53 dX7_isOf_36 (by decide) (fun c27 => ?_) (fun c27 => ?_)
      · rw [if_neg c27] at h
        refine r_iconst (v := 0) dX7_isOf_53 rfl ?_
        obtain rfl := Option.some.inj h
        exact r_zreturn rfl (by decide) dX7_isOf_54 (hp)
      · rw [if_pos c27] at h
        refine r_aload_n 0 dX7_isOf_39 rfl rfl ?_
        refine r_getC (k := 21) (j := 1) (r := 23) sX_21 rfl fl_X7_15 dX7_isOf_40 ?_
        refine r_iload_n 1 dX7_isOf_43 rfl rfl ?_
        obtain ⟨x25, hx25, h⟩ := b1_some h
        refine r_iaload sX_23 hx25 dX7_isOf_44 ?_
        refine r_iload_n 2 dX7_isOf_45 rfl rfl ?_
        refine r_icmp_ne 53 dX7_isOf_46 (by decide) (fun c26 => ?_) (fun c26 => ?_)
        · rw [if_neg c26] at h
          refine r_iconst (v := 0) dX7_isOf_53 rfl ?_
          obtain rfl := Option.some.inj h
          exact r_zreturn rfl (by decide) dX7_isOf_54 (hp)
        · rw [if_pos c26] at h
          refine r_iconst (v := 1) dX7_isOf_49 rfl ?_
          refine r_goto 54 dX7_isOf_50 (by decide) ?_
          obtain rfl := Option.some.inj h
          exact r_zreturn rfl (by decide) dX7_isOf_54 (hp)
  · refine key _ hw22 (fun z ez => by cases ez) (fun z ez => ?_)
    cases ez
    obtain rfl := Option.some.inj h
    exact hp
theorem mX7_isOf {G : Gx} {S : St} {v1 : Int32} {v2 : Int32} {v3 : Int32} {o : Int32}  (h : fX7_isOf S v1 v2 v3 = some o) : MR_ G shX 0 yX7_isOf cX7_isOf 4 (some .boolean) [.ref (ad_ G 21), .int v1, .int v2, .int v3] S (PI_ o S) := MR_of cb_X7_isOf (Nat.le_of_ble_eq_true rfl) [(0, .ref (ad_ G 21)), (1, .int v1), (2, .int v2), (3, .int v3)] rfl (tX7_isOf  h ⟨rfl, rfl⟩)
set_option maxRecDepth 100000 in
set_option maxHeartbeats 4000000 in
theorem tX1_soundness {G : Gx} {post : Option Value → St → Prop} {k0 : Nat} {S : St} {v1 : Int32} {v2 : Int32} {v3 : Int32} {v4 : Int32} {o : Int32} (hk0 : IsBd k0) (h : fX1_soundness k0 S v1 v2 v3 v4 = some o) (hp : post (some (.int o)) S) : Rn G shX 2 yX1_soundness cX1_soundness 8 (some .int) 0 [(0, .ref (ad_ G k0)), (1, .int v1), (2, .int v2), (3, .int v3), (4, .int v4)] [] S post := by
  unfold fX1_soundness at h
  refine r_bipush (v := 9) dX1_soundness_0 rfl ?_
  refine r_istore (i := 5) [(0, .ref (ad_ G k0)), (1, .int v1), (2, .int v2), (3, .int v3), (4, .int v4), (5, .int 9)] [1, 2, 3, 4, 5, 0] dX1_soundness_2 (by decide) rfl ?_
  refine r_iload_n 2 dX1_soundness_4 rfl rfl ?_
  refine r_istore (i := 6) [(0, .ref (ad_ G k0)), (1, .int v1), (2, .int v2), (3, .int v3), (4, .int v4), (5, .int 9), (6, .int v2)] [1, 2, 3, 4, 5, 6, 0] dX1_soundness_5 (by decide) rfl ?_
  have key : ∀ ex, lp (fun w21 : Int32 × Int32 => bX1_soundness_7 k0 S v1 v2 v3 v4 w21.1 w21.2) 5000 (9, v2) = some ex → (fun ex : (Int32) ⊕ Int32 => match ex with | .inl u34 => Rn G shX 2 yX1_soundness cX1_soundness 8 (some .int) 75 [(5, .int u34)] [] S post | .inr rr => post (some (.int rr)) S) ex → Rn G shX 2 yX1_soundness cX1_soundness 8 (some .int) 7 [(0, .ref (ad_ G k0)), (1, .int v1), (2, .int v2), (3, .int v3), (4, .int v4), (5, .int 9), (6, .int v2)] [] S post := by
    intro ex hl hx
    refine lp_rule (body := (fun w21 : Int32 × Int32 => bX1_soundness_7 k0 S v1 v2 v3 v4 w21.1 w21.2)) (R := (fun w21 : Int32 × Int32 => Rn G shX 2 yX1_soundness cX1_soundness 8 (some .int) 7 [(0, .ref (ad_ G k0)), (1, .int v1), (2, .int v2), (3, .int v3), (4, .int v4), (5, .int w21.1), (6, .int w21.2)] [] S post)) (X := (fun ex : (Int32) ⊕ Int32 => match ex with | .inl u34 => Rn G shX 2 yX1_soundness cX1_soundness 8 (some .int) 75 [(5, .int u34)] [] S post | .inr rr => post (some (.int rr)) S)) ?_ 5000 (9, v2) ex hl hx
    intro w21 oo h hB hX
    obtain ⟨v22, v23⟩ := w21
    replace h : bX1_soundness_7 k0 S v1 v2 v3 v4 v22 v23 = some oo := h
    unfold bX1_soundness_7 at h
    show Rn G shX 2 yX1_soundness cX1_soundness 8 (some .int) 7 [(0, .ref (ad_ G k0)), (1, .int v1), (2, .int v2), (3, .int v3), (4, .int v4), (5, .int v22), (6, .int v23)] [] S post
    refine r_iload 6 dX1_soundness_7 rfl ?_
    refine r_iload_n 2 dX1_soundness_9 rfl rfl ?_
    refine r_iload 4 dX1_soundness_10 rfl ?_
    refine r_iadd dX1_soundness_12 ?_
    refine r_icmp_ge 75 dX1_soundness_13 (by decide) (fun c33 => ?_) (fun c33 => ?_)
    · rw [if_pos c33] at h
      refine r_sub [(5, .int v22)] [5] rfl ?_
      obtain rfl := Option.some.inj h
      exact hX (.inl v22) rfl
    · rw [if_neg c33] at h
      refine r_iload_n 1 dX1_soundness_16 rfl rfl ?_
      refine r_istore (i := 7) [(0, .ref (ad_ G k0)), (1, .int v1), (2, .int v2), (3, .int v3), (4, .int v4), (5, .int v22), (6, .int v23), (7, .int v1)] [1, 2, 3, 4, 5, 6, 7, 0] dX1_soundness_17 (by decide) rfl ?_
      have key : ∀ ex, lp (fun w24 : Int32 × Int32 => bX1_soundness_19 k0 S v1 v3 v23 w24.1 w24.2) 5000 (v22, v1) = some ex → (fun ex : (Int32) ⊕ Int32 => match ex with | .inl u32 => Rn G shX 2 yX1_soundness cX1_soundness 8 (some .int) 69 [(0, .ref (ad_ G k0)), (1, .int v1), (2, .int v2), (3, .int v3), (4, .int v4), (5, .int u32), (6, .int v23)] [] S post | .inr rr => post (some (.int rr)) S) ex → Rn G shX 2 yX1_soundness cX1_soundness 8 (some .int) 19 [(0, .ref (ad_ G k0)), (1, .int v1), (2, .int v2), (3, .int v3), (4, .int v4), (5, .int v22), (6, .int v23), (7, .int v1)] [] S post := by
        intro ex hl hx
        refine lp_rule (body := (fun w24 : Int32 × Int32 => bX1_soundness_19 k0 S v1 v3 v23 w24.1 w24.2)) (R := (fun w24 : Int32 × Int32 => Rn G shX 2 yX1_soundness cX1_soundness 8 (some .int) 19 [(0, .ref (ad_ G k0)), (1, .int v1), (2, .int v2), (3, .int v3), (4, .int v4), (5, .int w24.1), (6, .int v23), (7, .int w24.2)] [] S post)) (X := (fun ex : (Int32) ⊕ Int32 => match ex with | .inl u32 => Rn G shX 2 yX1_soundness cX1_soundness 8 (some .int) 69 [(0, .ref (ad_ G k0)), (1, .int v1), (2, .int v2), (3, .int v3), (4, .int v4), (5, .int u32), (6, .int v23)] [] S post | .inr rr => post (some (.int rr)) S)) ?_ 5000 (v22, v1) ex hl hx
        intro w24 oo h hB hX
        obtain ⟨v25, v26⟩ := w24
        replace h : bX1_soundness_19 k0 S v1 v3 v23 v25 v26 = some oo := h
        unfold bX1_soundness_19 at h
        show Rn G shX 2 yX1_soundness cX1_soundness 8 (some .int) 19 [(0, .ref (ad_ G k0)), (1, .int v1), (2, .int v2), (3, .int v3), (4, .int v4), (5, .int v25), (6, .int v23), (7, .int v26)] [] S post
        refine r_iload 7 dX1_soundness_19 rfl ?_
        refine r_iload_n 1 dX1_soundness_21 rfl rfl ?_
        refine r_iload_n 3 dX1_soundness_22 rfl rfl ?_
        refine r_iadd dX1_soundness_23 ?_
        refine r_icmp_ge 69 dX1_soundness_24 (by decide) (fun c31 => ?_) (fun c31 => ?_)
        · rw [if_pos c31] at h
          refine r_sub [(0, .ref (ad_ G k0)), (1, .int v1), (2, .int v2), (3, .int v3), (4, .int v4), (5, .int v25), (6, .int v23)] [0, 1, 2, 3, 4, 5, 6] rfl ?_
          obtain rfl := Option.some.inj h
          exact hX (.inl v25) rfl
        · rw [if_neg c31] at h
          refine r_aload_n 0 dX1_soundness_27 rfl rfl ?_
          refine r_getL (k := k0) (j := 2) hk0.1 rfl fl_X1_18 dX1_soundness_28 ?_
          refine r_iload 7 dX1_soundness_31 rfl ?_
          refine r_iload 6 dX1_soundness_33 rfl ?_
          obtain ⟨x27, hx27, h⟩ := b1_some h
          refine r_callSNi (rest := []) (by omega) (mX11_bit hx27) cb_X11_bit (by decide) sm_X11_bit rfl rfl (Nat.le_of_ble_eq_true rfl) dX1_soundness_35 ?_
          refine r_iconst (v := 1) dX1_soundness_38 rfl ?_
          refine r_icmp_ne 44 dX1_soundness_39 (by decide) (fun c30 => ?_) (fun c30 => ?_)
          · rw [if_neg c30] at h
            refine r_iload 5 dX1_soundness_44 rfl ?_
            refine r_aload_n 0 dX1_soundness_46 rfl rfl ?_
            refine r_getC (k := k0) (j := 3) (r := k0 + 1) hk0.1 rfl fl_X1_22 dX1_soundness_47 ?_
            refine r_iload 7 dX1_soundness_50 rfl ?_
            refine r_iload 6 dX1_soundness_52 rfl ?_
            obtain ⟨x28, hx28, h⟩ := b1_some h
            refine r_callSNi (rest := [.ref (ad_ G (k0 + 1)), .int v25]) (by omega) (mX11_squareAt hx28) cb_X11_squareAt (by decide) sm_X11_squareAt rfl rfl (Nat.le_of_ble_eq_true rfl) dX1_soundness_54 ?_
            obtain ⟨x29, hx29, h⟩ := b1_some h
            refine r_iaload hk0.2 hx29 dX1_soundness_57 ?_
            refine r_mmin (rest := []) (by omega) ml_X1_44 (Nat.le_of_ble_eq_true rfl) dX1_soundness_58 ?_
            refine r_istore (i := 5) [(0, .ref (ad_ G k0)), (1, .int v1), (2, .int v2), (3, .int v3), (4, .int v4), (5, .int (mmin_ v25 x29)), (6, .int v23), (7, .int v26)] [1, 2, 3, 4, 5, 0, 6, 7] dX1_soundness_61 (by decide) rfl ?_
            refine r_iinc (v := v26 + 1) [(0, .ref (ad_ G k0)), (1, .int v1), (2, .int v2), (3, .int v3), (4, .int v4), (5, .int (mmin_ v25 x29)), (6, .int v23), (7, .int (v26 + 1))] 7 [1, 2, 3, 4, 5, 6, 7, 0] dX1_soundness_63 rfl rfl (by decide) rfl ?_
            refine r_goto 19 dX1_soundness_66 (by decide) ?_
            obtain rfl := Option.some.inj h
            exact hB (mmin_ v25 x29, v26 + 1) rfl
          · rw [if_pos c30] at h
            refine r_iconst (v := (-1)) dX1_soundness_42 rfl ?_
            obtain rfl := Option.some.inj h
            exact r_ireturn rfl dX1_soundness_43 (hX (.inr (-1)) rfl)
      rcases bs_some h with ⟨u32, hu32, h⟩ | ⟨rr, hu32, h⟩
      · refine key _ hu32 ?_
        show Rn G shX 2 yX1_soundness cX1_soundness 8 (some .int) 69 [(0, .ref (ad_ G k0)), (1, .int v1), (2, .int v2), (3, .int v3), (4, .int v4), (5, .int u32), (6, .int v23)] [] S post
        refine r_iinc (v := v23 + 1) [(0, .ref (ad_ G k0)), (1, .int v1), (2, .int v2), (3, .int v3), (4, .int v4), (5, .int u32), (6, .int (v23 + 1))] 6 [1, 2, 3, 4, 5, 6, 0] dX1_soundness_69 rfl rfl (by decide) rfl ?_
        refine r_goto 7 dX1_soundness_72 (by decide) ?_
        obtain rfl := Option.some.inj h
        exact hB (u32, v23 + 1) rfl
      · refine key _ hu32 ?_
        show post (some (.int rr)) S
        obtain rfl := Option.some.inj h
        exact hX (.inr rr) rfl
  rcases bs_some h with ⟨u34, hu34, h⟩ | ⟨rr, hu34, h⟩
  · refine key _ hu34 ?_
    show Rn G shX 2 yX1_soundness cX1_soundness 8 (some .int) 75 [(5, .int u34)] [] S post
    refine r_iload 0 dX1_soundness_75 rfl ?_
    obtain rfl := Option.some.inj h
    exact r_ireturn rfl dX1_soundness_77 (hp)
  · refine key _ hu34 ?_
    show post (some (.int rr)) S
    obtain rfl := Option.some.inj h
    exact hp
theorem mX1_soundness {G : Gx} {k0 : Nat} {S : St} {v1 : Int32} {v2 : Int32} {v3 : Int32} {v4 : Int32} {o : Int32} (hk0 : IsBd k0) (h : fX1_soundness k0 S v1 v2 v3 v4 = some o) : MR_ G shX 2 yX1_soundness cX1_soundness 8 (some .int) [.ref (ad_ G k0), .int v1, .int v2, .int v3, .int v4] S (PI_ o S) := MR_of cb_X1_soundness (Nat.le_of_ble_eq_true rfl) [(0, .ref (ad_ G k0)), (1, .int v1), (2, .int v2), (3, .int v3), (4, .int v4)] rfl (tX1_soundness hk0 h ⟨rfl, rfl⟩)
set_option maxRecDepth 100000 in
set_option maxHeartbeats 4000000 in
theorem tX11_fits {G : Gx} {post : Option Value → St → Prop} {S : St} {v1 : Int32} {v2 : Int32} {v3 : Int32} {v4 : Int32} {v5 : Int32} {o : Int32}  (h : fX11_fits S v1 v2 v3 v4 v5 = some o) (hp : post (some (.int o)) S) : Rn G shX 3 yX11_fits cX11_fits 6 (some .int) 0 [(0, .ref (ad_ G 0)), (1, .int v1), (2, .int v2), (3, .int v3), (4, .int v4), (5, .int v5)] [] S post := by
  unfold fX11_fits at h
  refine r_aload_n 0 dX11_fits_0 rfl rfl ?_
  refine r_getC (k := 0) (j := 0) (r := 1) sX_0 rfl fl_X11_10 dX11_fits_1 ?_
  refine r_iload_n 1 dX11_fits_4 rfl rfl ?_
  refine r_iload_n 2 dX11_fits_5 rfl rfl ?_
  refine r_iload_n 3 dX11_fits_6 rfl rfl ?_
  refine r_iload 4 dX11_fits_7 rfl ?_
  obtain ⟨x21, hx21, h⟩ := b1_some h
  refine r_callVi (k := 1) (rest := []) (by omega) (mX1_hasBlock is_1 hx21) sX_1 rfl rfl cb_X1_hasBlock ml_X11_151 im_X1_hasBlock se_X1_hasBlock rfl rfl (Nat.le_of_ble_eq_true rfl) dX11_fits_9 ?_
  refine r_if_eq 27 dX11_fits_12 (by decide) (fun c29 => ?_) (fun c29 => ?_)
  · rw [if_pos c29] at h
    refine r_iconst (v := (-1)) dX11_fits_27 rfl ?_
    obtain rfl := Option.some.inj h
    exact r_ireturn rfl dX11_fits_28 (hp)
  · rw [if_neg c29] at h
    refine r_aload_n 0 dX11_fits_15 rfl rfl ?_
    refine r_getC (k := 0) (j := 2) (r := 21) sX_0 rfl fl_X11_26 dX11_fits_16 ?_
    refine r_iload 5 dX11_fits_19 rfl ?_
    obtain ⟨x22, hx22, h⟩ := b1_some h
    refine r_callVi (k := 21) (rest := []) (by omega) (mX7_has hx22) sX_21 rfl rfl cb_X7_has ml_X11_155 im_X7_has se_X7_has rfl rfl (Nat.le_of_ble_eq_true rfl) dX11_fits_21 ?_
    refine r_if_ne 29 dX11_fits_24 (by decide) (fun c28 => ?_) (fun c28 => ?_)
    · rw [if_neg c28] at h
      refine r_aload_n 0 dX11_fits_29 rfl rfl ?_
      refine r_getC (k := 0) (j := 2) (r := 21) sX_0 rfl fl_X11_26 dX11_fits_30 ?_
      refine r_iload 5 dX11_fits_33 rfl ?_
      refine r_iload_n 3 dX11_fits_35 rfl rfl ?_
      refine r_iload 4 dX11_fits_36 rfl ?_
      obtain ⟨x23, hx23, h⟩ := b1_some h
      refine r_callVi (k := 21) (rest := []) (by omega) (mX7_isOf hx23) sX_21 rfl rfl cb_X7_isOf ml_X11_158 im_X7_isOf se_X7_isOf rfl rfl (Nat.le_of_ble_eq_true rfl) dX11_fits_38 ?_
      refine r_if_eq 73 dX11_fits_41 (by decide) (fun c27 => ?_) (fun c27 => ?_)
      · rw [if_pos c27] at h
        refine r_iconst (v := 0) dX11_fits_73 rfl ?_
        obtain rfl := Option.some.inj h
        exact r_ireturn rfl dX11_fits_74 (hp)
      · rw [if_neg c27] at h
        refine r_aload_n 0 dX11_fits_44 rfl rfl ?_
        refine r_getC (k := 0) (j := 0) (r := 1) sX_0 rfl fl_X11_10 dX11_fits_45 ?_
        refine r_iload_n 1 dX11_fits_48 rfl rfl ?_
        refine r_iload_n 2 dX11_fits_49 rfl rfl ?_
        refine r_iload_n 3 dX11_fits_50 rfl rfl ?_
        refine r_iload 4 dX11_fits_51 rfl ?_
        obtain ⟨x24, hx24, h⟩ := b1_some h
        refine r_callVi (k := 1) (rest := []) (by omega) (mX1_soundness is_1 hx24) sX_1 rfl rfl cb_X1_soundness ml_X11_161 im_X1_soundness se_X1_soundness rfl rfl (Nat.le_of_ble_eq_true rfl) dX11_fits_53 ?_
        refine r_aload_n 0 dX11_fits_56 rfl rfl ?_
        refine r_getC (k := 0) (j := 2) (r := 21) sX_0 rfl fl_X11_26 dX11_fits_57 ?_
        refine r_getC (k := 21) (j := 3) (r := 25) sX_21 rfl fl_X11_165 dX11_fits_60 ?_
        refine r_iload 5 dX11_fits_63 rfl ?_
        obtain ⟨x25, hx25, h⟩ := b1_some h
        refine r_iaload sX_25 hx25 dX11_fits_65 ?_
        refine r_icmp_lt 73 dX11_fits_66 (by decide) (fun c26 => ?_) (fun c26 => ?_)
        · rw [if_pos c26] at h
          refine r_iconst (v := 0) dX11_fits_73 rfl ?_
          obtain rfl := Option.some.inj h
          exact r_ireturn rfl dX11_fits_74 (hp)
        · rw [if_neg c26] at h
          refine r_iconst (v := 1) dX11_fits_69 rfl ?_
          refine r_goto 74 dX11_fits_70 (by decide) ?_
          obtain rfl := Option.some.inj h
          exact r_ireturn rfl dX11_fits_74 (hp)
    · rw [if_pos c28] at h
      refine r_iconst (v := (-1)) dX11_fits_27 rfl ?_
      obtain rfl := Option.some.inj h
      exact r_ireturn rfl dX11_fits_28 (hp)
theorem mX11_fits {G : Gx} {S : St} {v1 : Int32} {v2 : Int32} {v3 : Int32} {v4 : Int32} {v5 : Int32} {o : Int32}  (h : fX11_fits S v1 v2 v3 v4 v5 = some o) : MR_ G shX 3 yX11_fits cX11_fits 6 (some .int) [.ref (ad_ G 0), .int v1, .int v2, .int v3, .int v4, .int v5] S (PI_ o S) := MR_of cb_X11_fits (Nat.le_of_ble_eq_true rfl) [(0, .ref (ad_ G 0)), (1, .int v1), (2, .int v2), (3, .int v3), (4, .int v4), (5, .int v5)] rfl (tX11_fits  h ⟨rfl, rfl⟩)
set_option maxRecDepth 100000 in
set_option maxHeartbeats 4000000 in
theorem tX1_hasSound {G : Gx} {post : Option Value → St → Prop} {k0 : Nat} {S : St} {v1 : Int32} {v2 : Int32} {v3 : Int32} {o : Int32} (hk0 : IsBd k0) (h : fX1_hasSound k0 S v1 v2 v3 = some o) (hp : post (some (.int o)) S) : Rn G shX 3 yX1_hasSound cX1_hasSound 6 (some .boolean) 0 [(0, .ref (ad_ G k0)), (1, .int v1), (2, .int v2), (3, .int v3)] [] S post := by
  unfold fX1_hasSound at h
  refine r_iconst (v := 0) dX1_hasSound_0 rfl ?_
  refine r_istore (i := 4) [(0, .ref (ad_ G k0)), (1, .int v1), (2, .int v2), (3, .int v3), (4, .int 0)] [1, 2, 3, 4, 0] dX1_hasSound_1 (by decide) rfl ?_
  have key : ∀ ex, lp (fun w21 : Int32 => bX1_hasSound_3 k0 S v1 v2 v3 w21) 5000 0 = some ex → (fun ex : (Unit) ⊕ Int32 => match ex with | .inl u30 => Rn G shX 3 yX1_hasSound cX1_hasSound 6 (some .boolean) 56 [] [] S post | .inr rr => post (some (.int rr)) S) ex → Rn G shX 3 yX1_hasSound cX1_hasSound 6 (some .boolean) 3 [(0, .ref (ad_ G k0)), (1, .int v1), (2, .int v2), (3, .int v3), (4, .int 0)] [] S post := by
    intro ex hl hx
    refine lp_rule (body := (fun w21 : Int32 => bX1_hasSound_3 k0 S v1 v2 v3 w21)) (R := (fun w21 : Int32 => Rn G shX 3 yX1_hasSound cX1_hasSound 6 (some .boolean) 3 [(0, .ref (ad_ G k0)), (1, .int v1), (2, .int v2), (3, .int v3), (4, .int w21)] [] S post)) (X := (fun ex : (Unit) ⊕ Int32 => match ex with | .inl u30 => Rn G shX 3 yX1_hasSound cX1_hasSound 6 (some .boolean) 56 [] [] S post | .inr rr => post (some (.int rr)) S)) ?_ 5000 0 ex hl hx
    intro w21 oo h hB hX
    obtain ⟨v22, rfl⟩ : ∃ z, z = w21 := ⟨_, rfl⟩
    replace h : bX1_hasSound_3 k0 S v1 v2 v3 v22 = some oo := h
    unfold bX1_hasSound_3 at h
    show Rn G shX 3 yX1_hasSound cX1_hasSound 6 (some .boolean) 3 [(0, .ref (ad_ G k0)), (1, .int v1), (2, .int v2), (3, .int v3), (4, .int v22)] [] S post
    refine r_iload 4 dX1_hasSound_3 rfl ?_
    refine r_iload_n 2 dX1_hasSound_5 rfl rfl ?_
    refine r_iadd dX1_hasSound_6 ?_
    refine r_aload_n 0 dX1_hasSound_7 rfl rfl ?_
    refine r_getI (k := k0) (j := 1) hk0.1 rfl fl_X1_15 dX1_hasSound_8 ?_
    refine r_icmp_gt 56 dX1_hasSound_11 (by decide) (fun c29 => ?_) (fun c29 => ?_)
    · rw [if_pos c29] at h
      refine r_sub [] [] rfl ?_
      obtain rfl := Option.some.inj h
      exact hX (.inl ()) rfl
    · rw [if_neg c29] at h
      refine r_iconst (v := 0) dX1_hasSound_14 rfl ?_
      refine r_istore (i := 5) [(0, .ref (ad_ G k0)), (1, .int v1), (2, .int v2), (3, .int v3), (4, .int v22), (5, .int 0)] [1, 2, 3, 4, 5, 0] dX1_hasSound_15 (by decide) rfl ?_
      have key : ∀ ex, lp (fun w23 : Int32 => bX1_hasSound_17 k0 S v1 v2 v3 v22 w23) 5000 0 = some ex → (fun ex : (Unit) ⊕ Int32 => match ex with | .inl u28 => Rn G shX 3 yX1_hasSound cX1_hasSound 6 (some .boolean) 50 [(0, .ref (ad_ G k0)), (1, .int v1), (2, .int v2), (3, .int v3), (4, .int v22)] [] S post | .inr rr => post (some (.int rr)) S) ex → Rn G shX 3 yX1_hasSound cX1_hasSound 6 (some .boolean) 17 [(0, .ref (ad_ G k0)), (1, .int v1), (2, .int v2), (3, .int v3), (4, .int v22), (5, .int 0)] [] S post := by
        intro ex hl hx
        refine lp_rule (body := (fun w23 : Int32 => bX1_hasSound_17 k0 S v1 v2 v3 v22 w23)) (R := (fun w23 : Int32 => Rn G shX 3 yX1_hasSound cX1_hasSound 6 (some .boolean) 17 [(0, .ref (ad_ G k0)), (1, .int v1), (2, .int v2), (3, .int v3), (4, .int v22), (5, .int w23)] [] S post)) (X := (fun ex : (Unit) ⊕ Int32 => match ex with | .inl u28 => Rn G shX 3 yX1_hasSound cX1_hasSound 6 (some .boolean) 50 [(0, .ref (ad_ G k0)), (1, .int v1), (2, .int v2), (3, .int v3), (4, .int v22)] [] S post | .inr rr => post (some (.int rr)) S)) ?_ 5000 0 ex hl hx
        intro w23 oo h hB hX
        obtain ⟨v24, rfl⟩ : ∃ z, z = w23 := ⟨_, rfl⟩
        replace h : bX1_hasSound_17 k0 S v1 v2 v3 v22 v24 = some oo := h
        unfold bX1_hasSound_17 at h
        show Rn G shX 3 yX1_hasSound cX1_hasSound 6 (some .boolean) 17 [(0, .ref (ad_ G k0)), (1, .int v1), (2, .int v2), (3, .int v3), (4, .int v22), (5, .int v24)] [] S post
        refine r_iload 5 dX1_hasSound_17 rfl ?_
        refine r_iload_n 1 dX1_hasSound_19 rfl rfl ?_
        refine r_iadd dX1_hasSound_20 ?_
        refine r_aload_n 0 dX1_hasSound_21 rfl rfl ?_
        refine r_getI (k := k0) (j := 0) hk0.1 rfl fl_X1_9 dX1_hasSound_22 ?_
        refine r_icmp_gt 50 dX1_hasSound_25 (by decide) (fun c27 => ?_) (fun c27 => ?_)
        · rw [if_pos c27] at h
          refine r_sub [(0, .ref (ad_ G k0)), (1, .int v1), (2, .int v2), (3, .int v3), (4, .int v22)] [0, 1, 2, 3, 4] rfl ?_
          obtain rfl := Option.some.inj h
          exact hX (.inl ()) rfl
        · rw [if_neg c27] at h
          refine r_aload_n 0 dX1_hasSound_28 rfl rfl ?_
          refine r_iload 5 dX1_hasSound_29 rfl ?_
          refine r_iload 4 dX1_hasSound_31 rfl ?_
          refine r_iload_n 1 dX1_hasSound_33 rfl rfl ?_
          refine r_iload_n 2 dX1_hasSound_34 rfl rfl ?_
          obtain ⟨x25, hx25, h⟩ := b1_some h
          refine r_callVi (k := k0) (rest := []) (by omega) (mX1_soundness hk0 hx25) hk0.1 rfl rfl cb_X1_soundness ml_X1_49 im_X1_soundness se_X1_soundness rfl rfl (Nat.le_of_ble_eq_true rfl) dX1_hasSound_35 ?_
          refine r_iload_n 3 dX1_hasSound_38 rfl rfl ?_
          refine r_icmp_lt 44 dX1_hasSound_39 (by decide) (fun c26 => ?_) (fun c26 => ?_)
          · rw [if_pos c26] at h
            refine r_iinc (v := v24 + 1) [(0, .ref (ad_ G k0)), (1, .int v1), (2, .int v2), (3, .int v3), (4, .int v22), (5, .int (v24 + 1))] 5 [1, 2, 3, 4, 5, 0] dX1_hasSound_44 rfl rfl (by decide) rfl ?_
            refine r_goto 17 dX1_hasSound_47 (by decide) ?_
            obtain rfl := Option.some.inj h
            exact hB (v24 + 1) rfl
          · rw [if_neg c26] at h
            refine r_iconst (v := 1) dX1_hasSound_42 rfl ?_
            obtain rfl := Option.some.inj h
            exact r_zreturn rfl (by decide) dX1_hasSound_43 (hX (.inr 1) rfl)
      rcases bs_some h with ⟨u28, hu28, h⟩ | ⟨rr, hu28, h⟩
      · refine key _ hu28 ?_
        show Rn G shX 3 yX1_hasSound cX1_hasSound 6 (some .boolean) 50 [(0, .ref (ad_ G k0)), (1, .int v1), (2, .int v2), (3, .int v3), (4, .int v22)] [] S post
        refine r_iinc (v := v22 + 1) [(0, .ref (ad_ G k0)), (1, .int v1), (2, .int v2), (3, .int v3), (4, .int (v22 + 1))] 4 [1, 2, 3, 4, 0] dX1_hasSound_50 rfl rfl (by decide) rfl ?_
        refine r_goto 3 dX1_hasSound_53 (by decide) ?_
        obtain rfl := Option.some.inj h
        exact hB (v22 + 1) rfl
      · refine key _ hu28 ?_
        show post (some (.int rr)) S
        obtain rfl := Option.some.inj h
        exact hX (.inr rr) rfl
  rcases bs_some h with ⟨u30, hu30, h⟩ | ⟨rr, hu30, h⟩
  · refine key _ hu30 ?_
    show Rn G shX 3 yX1_hasSound cX1_hasSound 6 (some .boolean) 56 [] [] S post
    refine r_iconst (v := 0) dX1_hasSound_56 rfl ?_
    obtain rfl := Option.some.inj h
    exact r_zreturn rfl (by decide) dX1_hasSound_57 (hp)
  · refine key _ hu30 ?_
    show post (some (.int rr)) S
    obtain rfl := Option.some.inj h
    exact hp
theorem mX1_hasSound {G : Gx} {k0 : Nat} {S : St} {v1 : Int32} {v2 : Int32} {v3 : Int32} {o : Int32} (hk0 : IsBd k0) (h : fX1_hasSound k0 S v1 v2 v3 = some o) : MR_ G shX 3 yX1_hasSound cX1_hasSound 6 (some .boolean) [.ref (ad_ G k0), .int v1, .int v2, .int v3] S (PI_ o S) := MR_of cb_X1_hasSound (Nat.le_of_ble_eq_true rfl) [(0, .ref (ad_ G k0)), (1, .int v1), (2, .int v2), (3, .int v3)] rfl (tX1_hasSound hk0 h ⟨rfl, rfl⟩)
set_option maxRecDepth 100000 in
set_option maxHeartbeats 4000000 in
theorem tX11_isOpen {G : Gx} {post : Option Value → St → Prop} {S : St} {v1 : Int32} {o : Int32}  (h : fX11_isOpen S v1 = some o) (hp : post (some (.int o)) S) : Rn G shX 4 yX11_isOpen cX11_isOpen 5 (some .boolean) 0 [(0, .ref (ad_ G 0)), (1, .int v1)] [] S post := by
  unfold fX11_isOpen at h
  refine r_aload_n 0 dX11_isOpen_0 rfl rfl ?_
  refine r_getC (k := 0) (j := 2) (r := 21) sX_0 rfl fl_X11_26 dX11_isOpen_1 ?_
  refine r_getC (k := 21) (j := 0) (r := 22) sX_21 rfl fl_X11_171 dX11_isOpen_4 ?_
  refine r_iload_n 1 dX11_isOpen_7 rfl rfl ?_
  obtain ⟨x21, hx21, h⟩ := b1_some h
  refine r_iaload sX_22 hx21 dX11_isOpen_8 ?_
  refine r_istore_n (i := 2) [(0, .ref (ad_ G 0)), (1, .int v1), (2, .int x21)] [1, 2, 0] dX11_isOpen_9 rfl (by decide) rfl ?_
  refine r_aload_n 0 dX11_isOpen_10 rfl rfl ?_
  refine r_getC (k := 0) (j := 2) (r := 21) sX_0 rfl fl_X11_26 dX11_isOpen_11 ?_
  refine r_getC (k := 21) (j := 1) (r := 23) sX_21 rfl fl_X11_174 dX11_isOpen_14 ?_
  refine r_iload_n 1 dX11_isOpen_17 rfl rfl ?_
  obtain ⟨x22, hx22, h⟩ := b1_some h
  refine r_iaload sX_23 hx22 dX11_isOpen_18 ?_
  refine r_istore_n (i := 3) [(0, .ref (ad_ G 0)), (1, .int v1), (2, .int x21), (3, .int x22)] [1, 2, 3, 0] dX11_isOpen_19 rfl (by decide) rfl ?_
  refine r_aload_n 0 dX11_isOpen_20 rfl rfl ?_
  refine r_getC (k := 0) (j := 2) (r := 21) sX_0 rfl fl_X11_26 dX11_isOpen_21 ?_
  refine r_getC (k := 21) (j := 3) (r := 25) sX_21 rfl fl_X11_165 dX11_isOpen_24 ?_
  refine r_iload_n 1 dX11_isOpen_27 rfl rfl ?_
  obtain ⟨x23, hx23, h⟩ := b1_some h
  refine r_iaload sX_25 hx23 dX11_isOpen_28 ?_
  refine r_istore (i := 4) [(0, .ref (ad_ G 0)), (1, .int v1), (2, .int x21), (3, .int x22), (4, .int x23)] [1, 2, 3, 4, 0] dX11_isOpen_29 (by decide) rfl ?_
  refine r_aload_n 0 dX11_isOpen_31 rfl rfl ?_
  refine r_getC (k := 0) (j := 0) (r := 1) sX_0 rfl fl_X11_10 dX11_isOpen_32 ?_
  refine r_iload_n 2 dX11_isOpen_35 rfl rfl ?_
  refine r_iload_n 3 dX11_isOpen_36 rfl rfl ?_
  refine r_iload 4 dX11_isOpen_37 rfl ?_
  obtain ⟨x24, hx24, h⟩ := b1_some h
  refine r_callVi (k := 1) (rest := []) (by omega) (mX1_hasSound is_1 hx24) sX_1 rfl rfl cb_X1_hasSound ml_X11_177 im_X1_hasSound se_X1_hasSound rfl rfl (Nat.le_of_ble_eq_true rfl) dX11_isOpen_39 ?_
  refine r_if_ne 71 dX11_isOpen_42 (by decide) (fun c29 => ?_) (fun c29 => ?_)
  · rw [if_neg c29] at h
    refine r_iconst (v := 1) dX11_isOpen_71 rfl ?_
    refine r_goto 76 dX11_isOpen_72 (by decide) ?_
    obtain rfl := Option.some.inj h
    exact r_zreturn rfl (by decide) dX11_isOpen_76 (hp)
  · rw [if_pos c29] at h
    refine r_aload_n 0 dX11_isOpen_45 rfl rfl ?_
    refine r_getC (k := 0) (j := 2) (r := 21) sX_0 rfl fl_X11_26 dX11_isOpen_46 ?_
    refine r_getC (k := 21) (j := 4) (r := 26) sX_21 rfl fl_X11_180 dX11_isOpen_49 ?_
    refine r_iload_n 1 dX11_isOpen_52 rfl rfl ?_
    obtain ⟨x25, hx25, h⟩ := b1_some h
    refine r_zaload sX_26 hx25 dX11_isOpen_53 ?_
    refine r_if_eq 75 dX11_isOpen_54 (by decide) (fun c28 => ?_) (fun c28 => ?_)
    · rw [if_pos c28] at h
      refine r_iconst (v := 0) dX11_isOpen_75 rfl ?_
      obtain rfl := Option.some.inj h
      exact r_zreturn rfl (by decide) dX11_isOpen_76 (hp)
    · rw [if_neg c28] at h
      refine r_aload_n 0 dX11_isOpen_57 rfl rfl ?_
      refine r_getC (k := 0) (j := 0) (r := 1) sX_0 rfl fl_X11_10 dX11_isOpen_58 ?_
      refine r_iload_n 3 dX11_isOpen_61 rfl rfl ?_
      refine r_iload_n 2 dX11_isOpen_62 rfl rfl ?_
      refine r_iload 4 dX11_isOpen_63 rfl ?_
      obtain ⟨x26, hx26, h⟩ := b1_some h
      refine r_callVi (k := 1) (rest := []) (by omega) (mX1_hasSound is_1 hx26) sX_1 rfl rfl cb_X1_hasSound ml_X11_177 im_X1_hasSound se_X1_hasSound rfl rfl (Nat.le_of_ble_eq_true rfl) dX11_isOpen_65 ?_
      refine r_if_eq 75 dX11_isOpen_68 (by decide) (fun c27 => ?_) (fun c27 => ?_)
      · rw [if_pos c27] at h
        refine r_iconst (v := 0) dX11_isOpen_75 rfl ?_
        obtain rfl := Option.some.inj h
        exact r_zreturn rfl (by decide) dX11_isOpen_76 (hp)
      · rw [if_neg c27] at h
        refine r_iconst (v := 1) dX11_isOpen_71 rfl ?_
        refine r_goto 76 dX11_isOpen_72 (by decide) ?_
        obtain rfl := Option.some.inj h
        exact r_zreturn rfl (by decide) dX11_isOpen_76 (hp)
theorem mX11_isOpen {G : Gx} {S : St} {v1 : Int32} {o : Int32}  (h : fX11_isOpen S v1 = some o) : MR_ G shX 4 yX11_isOpen cX11_isOpen 5 (some .boolean) [.ref (ad_ G 0), .int v1] S (PI_ o S) := MR_of cb_X11_isOpen (Nat.le_of_ble_eq_true rfl) [(0, .ref (ad_ G 0)), (1, .int v1)] rfl (tX11_isOpen  h ⟨rfl, rfl⟩)
set_option maxRecDepth 100000 in
set_option maxHeartbeats 4000000 in
theorem tX11_open {G : Gx} {post : Option Value → St → Prop} {S : St} {o : Int32}  (h : fX11_open S = some o) (hp : post (some (.int o)) S) : Rn G shX 5 yX11_open cX11_open 3 (some .int) 0 [(0, .ref (ad_ G 0))] [] S post := by
  unfold fX11_open at h
  refine r_iconst (v := 0) dX11_open_0 rfl ?_
  refine r_istore_n (i := 1) [(0, .ref (ad_ G 0)), (1, .int 0)] [1, 0] dX11_open_1 rfl (by decide) rfl ?_
  refine r_iconst (v := 0) dX11_open_2 rfl ?_
  refine r_istore_n (i := 2) [(0, .ref (ad_ G 0)), (1, .int 0), (2, .int 0)] [1, 2, 0] dX11_open_3 rfl (by decide) rfl ?_
  have key : ∀ ex, lp (fun w21 : Int32 × Int32 => bX11_open_4 S w21.1 w21.2) 5000 (0, 0) = some ex → (fun u28 : Int32 => Rn G shX 5 yX11_open cX11_open 3 (some .int) 35 [(1, .int u28)] [] S post) ex → Rn G shX 5 yX11_open cX11_open 3 (some .int) 4 [(0, .ref (ad_ G 0)), (1, .int 0), (2, .int 0)] [] S post := by
    intro ex hl hx
    refine lp_rule (body := (fun w21 : Int32 × Int32 => bX11_open_4 S w21.1 w21.2)) (R := (fun w21 : Int32 × Int32 => Rn G shX 5 yX11_open cX11_open 3 (some .int) 4 [(0, .ref (ad_ G 0)), (1, .int w21.1), (2, .int w21.2)] [] S post)) (X := (fun u28 : Int32 => Rn G shX 5 yX11_open cX11_open 3 (some .int) 35 [(1, .int u28)] [] S post)) ?_ 5000 (0, 0) ex hl hx
    intro w21 oo h hB hX
    obtain ⟨v22, v23⟩ := w21
    replace h : bX11_open_4 S v22 v23 = some oo := h
    unfold bX11_open_4 at h
    show Rn G shX 5 yX11_open cX11_open 3 (some .int) 4 [(0, .ref (ad_ G 0)), (1, .int v22), (2, .int v23)] [] S post
    refine r_iload_n 2 dX11_open_4 rfl rfl ?_
    refine r_aload_n 0 dX11_open_5 rfl rfl ?_
    refine r_getC (k := 0) (j := 2) (r := 21) sX_0 rfl fl_X11_26 dX11_open_6 ?_
    refine r_getI (k := 21) (j := 5) sX_21 rfl fl_X11_142 dX11_open_9 ?_
    refine r_icmp_ge 35 dX11_open_12 (by decide) (fun c27 => ?_) (fun c27 => ?_)
    · rw [if_pos c27] at h
      refine r_sub [(1, .int v22)] [1] rfl ?_
      obtain rfl := Option.some.inj h
      exact hX v22 rfl
    · rw [if_neg c27] at h
      refine r_aload_n 0 dX11_open_15 rfl rfl ?_
      refine r_iload_n 2 dX11_open_16 rfl rfl ?_
      obtain ⟨x24, hx24, h⟩ := b1_some h
      refine r_callVi (k := 0) (rest := []) (by omega) (mX11_isOpen hx24) sX_0 rfl rfl cb_X11_isOpen ml_X11_168 im_X11_isOpen se_X11_isOpen rfl rfl (Nat.le_of_ble_eq_true rfl) dX11_open_17 ?_
      refine r_if_eq 29 dX11_open_20 (by decide) (fun c26 => ?_) (fun c26 => ?_)
      · rw [if_pos c26] at h
        refine r_iinc (v := v23 + 1) [(0, .ref (ad_ G 0)), (1, .int v22), (2, .int (v23 + 1))] 2 [1, 2, 0] dX11_open_29 rfl rfl (by decide) rfl ?_
        refine r_goto 4 dX11_open_32 (by decide) ?_
        obtain rfl := Option.some.inj h
        exact hB (v22, v23 + 1) rfl
      · rw [if_neg c26] at h
        refine r_iload_n 1 dX11_open_23 rfl rfl ?_
        refine r_iconst (v := 1) dX11_open_24 rfl ?_
        refine r_iload_n 2 dX11_open_25 rfl rfl ?_
        refine r_ishl dX11_open_26 ?_
        refine r_ior dX11_open_27 ?_
        obtain ⟨x25, hx25, h⟩ := b1_some h
        rw [Option.some.inj hx25]
        refine r_istore_n (i := 1) [(0, .ref (ad_ G 0)), (1, .int x25), (2, .int v23)] [1, 0, 2] dX11_open_28 rfl (by decide) rfl ?_
        refine r_iinc (v := v23 + 1) [(0, .ref (ad_ G 0)), (1, .int x25), (2, .int (v23 + 1))] 2 [1, 2, 0] dX11_open_29 rfl rfl (by decide) rfl ?_
        refine r_goto 4 dX11_open_32 (by decide) ?_
        obtain rfl := Option.some.inj h
        exact hB (x25, v23 + 1) rfl
  obtain ⟨u28, hu28, h⟩ := b1_some h
  refine key u28 hu28 ?_
  show Rn G shX 5 yX11_open cX11_open 3 (some .int) 35 [(1, .int u28)] [] S post
  refine r_iload_n 0 dX11_open_35 rfl rfl ?_
  obtain rfl := Option.some.inj h
  exact r_ireturn rfl dX11_open_36 (hp)
theorem mX11_open {G : Gx} {S : St} {o : Int32}  (h : fX11_open S = some o) : MR_ G shX 5 yX11_open cX11_open 3 (some .int) [.ref (ad_ G 0)] S (PI_ o S) := MR_of cb_X11_open (Nat.le_of_ble_eq_true rfl) [(0, .ref (ad_ G 0))] rfl (tX11_open  h ⟨rfl, rfl⟩)
set_option maxRecDepth 100000 in
set_option maxHeartbeats 4000000 in
theorem tX6_seeOnly {G : Gx} {post : Option Value → St → Prop} {S : St} {v1 : Int64} {o : St}  (h : fX6_seeOnly S v1 = some o) (hp : post none o) : Rn G shX 0 yX6_seeOnly cX6_seeOnly 3 none 0 [(0, .ref (ad_ G 27)), (1, .long v1)] [] S post := by
  unfold fX6_seeOnly at h
  refine r_aload_n 0 dX6_seeOnly_0 rfl rfl ?_
  refine r_getC (k := 27) (j := 2) (r := 28) sX_27 rfl fl_X6_9 dX6_seeOnly_1 ?_
  refine r_iconst (v := 0) dX6_seeOnly_4 rfl ?_
  refine r_lload_n 1 dX6_seeOnly_5 rfl rfl ?_
  obtain ⟨S21, hS21, h⟩ := b1_some h
  refine r_lastore sX_28 hS21 dX6_seeOnly_6 ?_
  refine r_aload_n 0 dX6_seeOnly_7 rfl rfl ?_
  refine r_iconst (v := 1) dX6_seeOnly_8 rfl ?_
  obtain ⟨S22, hS22, h⟩ := b1_some h
  refine r_setI (k := 27) (j := 3) sX_27 rfl pf_X6_15 hS22 dX6_seeOnly_9 ?_
  obtain rfl := Option.some.inj h
  exact r_return rfl dX6_seeOnly_12 (hp)
theorem mX6_seeOnly {G : Gx} {S : St} {v1 : Int64} {o : St}  (h : fX6_seeOnly S v1 = some o) : MR_ G shX 0 yX6_seeOnly cX6_seeOnly 3 none [.ref (ad_ G 27), .long v1] S (PV_ o) := MR_of cb_X6_seeOnly (Nat.le_of_ble_eq_true rfl) [(0, .ref (ad_ G 27)), (1, .long v1)] rfl (tX6_seeOnly  h ⟨rfl, rfl⟩)
set_option maxRecDepth 100000 in
set_option maxHeartbeats 4000000 in
theorem tX6_markSquares {G : Gx} {post : Option Value → St → Prop} {S : St} {o : St}  (h : fX6_markSquares S = some o) (hp : post none o) : Rn G shX 2 yX6_markSquares cX6_markSquares 5 none 0 [(0, .ref (ad_ G 27))] [] S post := by
  unfold fX6_markSquares at h
  refine r_iconst (v := 0) dX6_markSquares_0 rfl ?_
  refine r_istore_n (i := 1) [(0, .ref (ad_ G 27)), (1, .int 0)] [1, 0] dX6_markSquares_1 rfl (by decide) rfl ?_
  have key : ∀ ex, lp (fun w21 : Int32 × St => bX6_markSquares_2  w21.1 w21.2) 5000 (0, S) = some ex → (fun u43 : St => Rn G shX 2 yX6_markSquares cX6_markSquares 5 none 108 [] [] u43 post) ex → Rn G shX 2 yX6_markSquares cX6_markSquares 5 none 2 [(0, .ref (ad_ G 27)), (1, .int 0)] [] S post := by
    intro ex hl hx
    refine lp_rule (body := (fun w21 : Int32 × St => bX6_markSquares_2  w21.1 w21.2)) (R := (fun w21 : Int32 × St => Rn G shX 2 yX6_markSquares cX6_markSquares 5 none 2 [(0, .ref (ad_ G 27)), (1, .int w21.1)] [] w21.2 post)) (X := (fun u43 : St => Rn G shX 2 yX6_markSquares cX6_markSquares 5 none 108 [] [] u43 post)) ?_ 5000 (0, S) ex hl hx
    intro w21 oo h hB hX
    obtain ⟨v22, S23⟩ := w21
    replace h : bX6_markSquares_2  v22 S23 = some oo := h
    unfold bX6_markSquares_2 at h
    show Rn G shX 2 yX6_markSquares cX6_markSquares 5 none 2 [(0, .ref (ad_ G 27)), (1, .int v22)] [] S23 post
    refine r_iload_n 1 dX6_markSquares_2 rfl rfl ?_
    refine r_aload_n 0 dX6_markSquares_3 rfl rfl ?_
    refine r_getC (k := 27) (j := 0) (r := 1) sX_27 rfl fl_X6_50 dX6_markSquares_4 ?_
    refine r_getI (k := 1) (j := 1) sX_1 rfl fl_X6_76 dX6_markSquares_7 ?_
    refine r_icmp_ge 108 dX6_markSquares_10 (by decide) (fun c42 => ?_) (fun c42 => ?_)
    · rw [if_pos c42] at h
      refine r_sub [] [] rfl ?_
      obtain rfl := Option.some.inj h
      exact hX S23 rfl
    · rw [if_neg c42] at h
      refine r_iconst (v := 0) dX6_markSquares_13 rfl ?_
      refine r_istore_n (i := 2) [(0, .ref (ad_ G 27)), (1, .int v22), (2, .int 0)] [1, 2, 0] dX6_markSquares_14 rfl (by decide) rfl ?_
      have key : ∀ ex, lp (fun w24 : Int32 × St => bX6_markSquares_15 v22 w24.1 w24.2) 5000 (0, S23) = some ex → (fun u41 : St => Rn G shX 2 yX6_markSquares cX6_markSquares 5 none 102 [(0, .ref (ad_ G 27)), (1, .int v22)] [] u41 post) ex → Rn G shX 2 yX6_markSquares cX6_markSquares 5 none 15 [(0, .ref (ad_ G 27)), (1, .int v22), (2, .int 0)] [] S23 post := by
        intro ex hl hx
        refine lp_rule (body := (fun w24 : Int32 × St => bX6_markSquares_15 v22 w24.1 w24.2)) (R := (fun w24 : Int32 × St => Rn G shX 2 yX6_markSquares cX6_markSquares 5 none 15 [(0, .ref (ad_ G 27)), (1, .int v22), (2, .int w24.1)] [] w24.2 post)) (X := (fun u41 : St => Rn G shX 2 yX6_markSquares cX6_markSquares 5 none 102 [(0, .ref (ad_ G 27)), (1, .int v22)] [] u41 post)) ?_ 5000 (0, S23) ex hl hx
        intro w24 oo h hB hX
        obtain ⟨v25, S26⟩ := w24
        replace h : bX6_markSquares_15 v22 v25 S26 = some oo := h
        unfold bX6_markSquares_15 at h
        show Rn G shX 2 yX6_markSquares cX6_markSquares 5 none 15 [(0, .ref (ad_ G 27)), (1, .int v22), (2, .int v25)] [] S26 post
        refine r_iload_n 2 dX6_markSquares_15 rfl rfl ?_
        refine r_aload_n 0 dX6_markSquares_16 rfl rfl ?_
        refine r_getC (k := 27) (j := 0) (r := 1) sX_27 rfl fl_X6_50 dX6_markSquares_17 ?_
        refine r_getI (k := 1) (j := 0) sX_1 rfl fl_X6_81 dX6_markSquares_20 ?_
        refine r_icmp_ge 102 dX6_markSquares_23 (by decide) (fun c40 => ?_) (fun c40 => ?_)
        · rw [if_pos c40] at h
          refine r_sub [(0, .ref (ad_ G 27)), (1, .int v22)] [0, 1] rfl ?_
          obtain rfl := Option.some.inj h
          exact hX S26 rfl
        · rw [if_neg c40] at h
          refine r_iconst (v := 2) dX6_markSquares_26 rfl ?_
          refine r_aload_n 0 dX6_markSquares_27 rfl rfl ?_
          refine r_getC (k := 27) (j := 0) (r := 1) sX_27 rfl fl_X6_50 dX6_markSquares_28 ?_
          refine r_getC (k := 1) (j := 3) (r := 2) sX_1 rfl fl_X6_84 dX6_markSquares_31 ?_
          refine r_iload_n 2 dX6_markSquares_34 rfl rfl ?_
          refine r_iload_n 1 dX6_markSquares_35 rfl rfl ?_
          obtain ⟨x27, hx27, h⟩ := b1_some h
          refine r_callSNi (rest := [.ref (ad_ G 2), .int 2]) (by omega) (mX11_squareAt hx27) cb_X11_squareAt (by decide) sm_X11_squareAt rfl rfl (Nat.le_of_ble_eq_true rfl) dX6_markSquares_36 ?_
          obtain ⟨x28, hx28, h⟩ := b1_some h
          refine r_iaload sX_2 hx28 dX6_markSquares_39 ?_
          refine r_ishl dX6_markSquares_40 ?_
          refine r_iconst (v := 1) dX6_markSquares_41 rfl ?_
          refine r_isub dX6_markSquares_42 ?_
          obtain ⟨x29, hx29, h⟩ := b1_some h
          rw [Option.some.inj hx29]
          refine r_istore_n (i := 3) [(0, .ref (ad_ G 27)), (1, .int v22), (2, .int v25), (3, .int x29)] [1, 2, 3, 0] dX6_markSquares_43 rfl (by decide) rfl ?_
          refine r_iconst (v := 0) dX6_markSquares_44 rfl ?_
          refine r_istore (i := 4) [(0, .ref (ad_ G 27)), (1, .int v22), (2, .int v25), (3, .int x29), (4, .int 0)] [1, 2, 3, 4, 0] dX6_markSquares_45 (by decide) rfl ?_
          have key : ∀ ex, lp (fun w30 : Int32 × Int32 => bX6_markSquares_47 v22 v25 S26 w30.1 w30.2) 5000 (x29, 0) = some ex → (fun u37 : Int32 => Rn G shX 2 yX6_markSquares cX6_markSquares 5 none 85 [(0, .ref (ad_ G 27)), (1, .int v22), (2, .int v25), (3, .int u37)] [] S26 post) ex → Rn G shX 2 yX6_markSquares cX6_markSquares 5 none 47 [(0, .ref (ad_ G 27)), (1, .int v22), (2, .int v25), (3, .int x29), (4, .int 0)] [] S26 post := by
            intro ex hl hx
            refine lp_rule (body := (fun w30 : Int32 × Int32 => bX6_markSquares_47 v22 v25 S26 w30.1 w30.2)) (R := (fun w30 : Int32 × Int32 => Rn G shX 2 yX6_markSquares cX6_markSquares 5 none 47 [(0, .ref (ad_ G 27)), (1, .int v22), (2, .int v25), (3, .int w30.1), (4, .int w30.2)] [] S26 post)) (X := (fun u37 : Int32 => Rn G shX 2 yX6_markSquares cX6_markSquares 5 none 85 [(0, .ref (ad_ G 27)), (1, .int v22), (2, .int v25), (3, .int u37)] [] S26 post)) ?_ 5000 (x29, 0) ex hl hx
            intro w30 oo h hB hX
            obtain ⟨v31, v32⟩ := w30
            replace h : bX6_markSquares_47 v22 v25 S26 v31 v32 = some oo := h
            unfold bX6_markSquares_47 at h
            show Rn G shX 2 yX6_markSquares cX6_markSquares 5 none 47 [(0, .ref (ad_ G 27)), (1, .int v22), (2, .int v25), (3, .int v31), (4, .int v32)] [] S26 post
            refine r_iload 4 dX6_markSquares_47 rfl ?_
            refine r_aload_n 0 dX6_markSquares_49 rfl rfl ?_
            refine r_getI (k := 27) (j := 3) sX_27 rfl fl_X6_15 dX6_markSquares_50 ?_
            refine r_icmp_ge 85 dX6_markSquares_53 (by decide) (fun c36 => ?_) (fun c36 => ?_)
            · rw [if_pos c36] at h
              refine r_sub [(0, .ref (ad_ G 27)), (1, .int v22), (2, .int v25), (3, .int v31)] [0, 1, 2, 3] rfl ?_
              obtain rfl := Option.some.inj h
              exact hX v31 rfl
            · rw [if_neg c36] at h
              refine r_iload_n 3 dX6_markSquares_56 rfl rfl ?_
              refine r_iconst (v := 1) dX6_markSquares_57 rfl ?_
              refine r_aload_n 0 dX6_markSquares_58 rfl rfl ?_
              refine r_getC (k := 27) (j := 2) (r := 28) sX_27 rfl fl_X6_9 dX6_markSquares_59 ?_
              refine r_iload 4 dX6_markSquares_62 rfl ?_
              obtain ⟨x33, hx33, h⟩ := b1_some h
              refine r_laload sX_28 hx33 dX6_markSquares_64 ?_
              refine r_iload_n 2 dX6_markSquares_65 rfl rfl ?_
              refine r_iload_n 1 dX6_markSquares_66 rfl rfl ?_
              obtain ⟨x34, hx34, h⟩ := b1_some h
              refine r_callSNi (rest := [.int 1, .int v31]) (by omega) (mX11_bit hx34) cb_X11_bit (by decide) sm_X11_bit rfl rfl (Nat.le_of_ble_eq_true rfl) dX6_markSquares_67 ?_
              refine r_isub dX6_markSquares_70 ?_
              refine r_bipush (v := 10) dX6_markSquares_71 rfl ?_
              refine r_iload 4 dX6_markSquares_73 rfl ?_
              refine r_iadd dX6_markSquares_75 ?_
              refine r_ishl dX6_markSquares_76 ?_
              refine r_ior dX6_markSquares_77 ?_
              obtain ⟨x35, hx35, h⟩ := b1_some h
              rw [Option.some.inj hx35]
              refine r_istore_n (i := 3) [(0, .ref (ad_ G 27)), (1, .int v22), (2, .int v25), (3, .int x35), (4, .int v32)] [1, 2, 3, 0, 4] dX6_markSquares_78 rfl (by decide) rfl ?_
              refine r_iinc (v := v32 + 1) [(0, .ref (ad_ G 27)), (1, .int v22), (2, .int v25), (3, .int x35), (4, .int (v32 + 1))] 4 [1, 2, 3, 4, 0] dX6_markSquares_79 rfl rfl (by decide) rfl ?_
              refine r_goto 47 dX6_markSquares_82 (by decide) ?_
              obtain rfl := Option.some.inj h
              exact hB (x35, v32 + 1) rfl
          obtain ⟨u37, hu37, h⟩ := b1_some h
          refine key u37 hu37 ?_
          show Rn G shX 2 yX6_markSquares cX6_markSquares 5 none 85 [(0, .ref (ad_ G 27)), (1, .int v22), (2, .int v25), (3, .int u37)] [] S26 post
          refine r_aload_n 0 dX6_markSquares_85 rfl rfl ?_
          refine r_getC (k := 27) (j := 4) (r := 29) sX_27 rfl fl_X6_19 dX6_markSquares_86 ?_
          refine r_iload_n 2 dX6_markSquares_89 rfl rfl ?_
          refine r_iload_n 1 dX6_markSquares_90 rfl rfl ?_
          obtain ⟨x38, hx38, h⟩ := b1_some h
          refine r_callSNi (rest := [.ref (ad_ G 29)]) (by omega) (mX11_squareAt hx38) cb_X11_squareAt (by decide) sm_X11_squareAt rfl rfl (Nat.le_of_ble_eq_true rfl) dX6_markSquares_91 ?_
          refine r_iload_n 3 dX6_markSquares_94 rfl rfl ?_
          obtain ⟨S39, hS39, h⟩ := b1_some h
          refine r_iastore sX_29 hS39 dX6_markSquares_95 ?_
          refine r_iinc (v := v25 + 1) [(0, .ref (ad_ G 27)), (1, .int v22), (2, .int (v25 + 1)), (3, .int u37)] 2 [1, 2, 0, 3] dX6_markSquares_96 rfl rfl (by decide) rfl ?_
          refine r_goto 15 dX6_markSquares_99 (by decide) ?_
          refine r_sub [(0, .ref (ad_ G 27)), (1, .int v22), (2, .int (v25 + 1))] [0, 1, 2] rfl ?_
          obtain rfl := Option.some.inj h
          exact hB (v25 + 1, S39) rfl
      obtain ⟨u41, hu41, h⟩ := b1_some h
      refine key u41 hu41 ?_
      show Rn G shX 2 yX6_markSquares cX6_markSquares 5 none 102 [(0, .ref (ad_ G 27)), (1, .int v22)] [] u41 post
      refine r_iinc (v := v22 + 1) [(0, .ref (ad_ G 27)), (1, .int (v22 + 1))] 1 [1, 0] dX6_markSquares_102 rfl rfl (by decide) rfl ?_
      refine r_goto 2 dX6_markSquares_105 (by decide) ?_
      obtain rfl := Option.some.inj h
      exact hB (v22 + 1, u41) rfl
  obtain ⟨u43, hu43, h⟩ := b1_some h
  refine key u43 hu43 ?_
  show Rn G shX 2 yX6_markSquares cX6_markSquares 5 none 108 [] [] u43 post
  obtain rfl := Option.some.inj h
  exact r_return rfl dX6_markSquares_108 (hp)
theorem mX6_markSquares {G : Gx} {S : St} {o : St}  (h : fX6_markSquares S = some o) : MR_ G shX 2 yX6_markSquares cX6_markSquares 5 none [.ref (ad_ G 27)] S (PV_ o) := MR_of cb_X6_markSquares (Nat.le_of_ble_eq_true rfl) [(0, .ref (ad_ G 27))] rfl (tX6_markSquares  h ⟨rfl, rfl⟩)
