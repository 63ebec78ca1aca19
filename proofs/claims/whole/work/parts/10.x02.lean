set_option maxRecDepth 100000 in
set_option maxHeartbeats 4000000 in
theorem tX6_tally {G : Gx} {post : Option Value → St → Prop} {S : St} {o : St}  (h : fX6_tally S = some o) (hp : post none o) : Rn G shX 5 yX6_tally cX6_tally 3 none 0 [(0, .ref (ad_ G 27))] [] S post := by
  unfold fX6_tally at h
  refine r_aload_n 0 dX6_tally_0 rfl rfl ?_
  refine r_iconst (v := 0) dX6_tally_1 rfl ?_
  obtain ⟨S21, hS21, h⟩ := b1_some h
  refine r_setI (k := 27) (j := 11) sX_27 rfl pf_X6_41 hS21 dX6_tally_2 ?_
  refine r_aload_n 0 dX6_tally_5 rfl rfl ?_
  refine r_iconst (v := 0) dX6_tally_6 rfl ?_
  obtain ⟨S22, hS22, h⟩ := b1_some h
  refine r_setI (k := 27) (j := 12) sX_27 rfl pf_X6_44 hS22 dX6_tally_7 ?_
  refine r_aload_n 0 dX6_tally_10 rfl rfl ?_
  refine r_iconst (v := 0) dX6_tally_11 rfl ?_
  obtain ⟨S23, hS23, h⟩ := b1_some h
  refine r_setI (k := 27) (j := 13) sX_27 rfl pf_X6_47 hS23 dX6_tally_12 ?_
  refine r_iconst (v := 0) dX6_tally_15 rfl ?_
  refine r_istore_n (i := 1) [(0, .ref (ad_ G 27)), (1, .int 0)] [1, 0] dX6_tally_16 rfl (by decide) rfl ?_
  have key : ∀ ex, lp (fun w24 : Int32 × St => bX6_tally_17  w24.1 w24.2) 5000 (0, S23) = some ex → (fun u29 : St => Rn G shX 5 yX6_tally cX6_tally 3 none 36 [(0, .ref (ad_ G 27))] [] u29 post) ex → Rn G shX 5 yX6_tally cX6_tally 3 none 17 [(0, .ref (ad_ G 27)), (1, .int 0)] [] S23 post := by
    intro ex hl hx
    refine lp_rule (body := (fun w24 : Int32 × St => bX6_tally_17  w24.1 w24.2)) (R := (fun w24 : Int32 × St => Rn G shX 5 yX6_tally cX6_tally 3 none 17 [(0, .ref (ad_ G 27)), (1, .int w24.1)] [] w24.2 post)) (X := (fun u29 : St => Rn G shX 5 yX6_tally cX6_tally 3 none 36 [(0, .ref (ad_ G 27))] [] u29 post)) ?_ 5000 (0, S23) ex hl hx
    intro w24 oo h hB hX
    obtain ⟨v25, S26⟩ := w24
    replace h : bX6_tally_17  v25 S26 = some oo := h
    unfold bX6_tally_17 at h
    show Rn G shX 5 yX6_tally cX6_tally 3 none 17 [(0, .ref (ad_ G 27)), (1, .int v25)] [] S26 post
    refine r_iload_n 1 dX6_tally_17 rfl rfl ?_
    refine r_bipush (v := 8) dX6_tally_18 rfl ?_
    refine r_icmp_ge 36 dX6_tally_20 (by decide) (fun c28 => ?_) (fun c28 => ?_)
    · rw [if_pos c28] at h
      refine r_sub [(0, .ref (ad_ G 27))] [0] rfl ?_
      obtain rfl := Option.some.inj h
      exact hX S26 rfl
    · rw [if_neg c28] at h
      refine r_aload_n 0 dX6_tally_23 rfl rfl ?_
      refine r_getC (k := 27) (j := 10) (r := 35) sX_27 rfl fl_X6_38 dX6_tally_24 ?_
      refine r_iload_n 1 dX6_tally_27 rfl rfl ?_
      refine r_iconst (v := 0) dX6_tally_28 rfl ?_
      obtain ⟨S27, hS27, h⟩ := b1_some h
      refine r_iastore sX_35 hS27 dX6_tally_29 ?_
      refine r_iinc (v := v25 + 1) [(0, .ref (ad_ G 27)), (1, .int (v25 + 1))] 1 [1, 0] dX6_tally_30 rfl rfl (by decide) rfl ?_
      refine r_goto 17 dX6_tally_33 (by decide) ?_
      obtain rfl := Option.some.inj h
      exact hB (v25 + 1, S27) rfl
  obtain ⟨u29, hu29, h⟩ := b1_some h
  refine key u29 hu29 ?_
  show Rn G shX 5 yX6_tally cX6_tally 3 none 36 [(0, .ref (ad_ G 27))] [] u29 post
  refine r_aload_n 0 dX6_tally_36 rfl rfl ?_
  refine r_getC (k := 27) (j := 9) (r := 34) sX_27 rfl fl_X6_35 dX6_tally_37 ?_
  refine r_iconst (v := 0) dX6_tally_40 rfl ?_
  refine r_iconst (v := 0) dX6_tally_41 rfl ?_
  refine r_iconst (v := 0) dX6_tally_42 rfl ?_
  refine r_aload_n 0 dX6_tally_43 rfl rfl ?_
  refine r_getC (k := 27) (j := 0) (r := 1) sX_27 rfl fl_X6_50 dX6_tally_44 ?_
  refine r_getI (k := 1) (j := 0) sX_1 rfl fl_X6_81 dX6_tally_47 ?_
  refine r_aload_n 0 dX6_tally_50 rfl rfl ?_
  refine r_getC (k := 27) (j := 0) (r := 1) sX_27 rfl fl_X6_50 dX6_tally_51 ?_
  refine r_getI (k := 1) (j := 1) sX_1 rfl fl_X6_76 dX6_tally_54 ?_
  obtain ⟨x30, hx30, h⟩ := b1_some h
  refine r_callSi (rest := [.int 0, .ref (ad_ G 34)]) (by omega) (mX6_placeOf hx30) cb_X6_placeOf ml_X6_68 sm_X6_placeOf rfl rfl (Nat.le_of_ble_eq_true rfl) dX6_tally_57 ?_
  obtain ⟨S31, hS31, h⟩ := b1_some h
  refine r_iastore sX_34 hS31 dX6_tally_60 ?_
  refine r_iconst (v := 1) dX6_tally_61 rfl ?_
  refine r_istore_n (i := 1) [(0, .ref (ad_ G 27)), (1, .int 1)] [1, 0] dX6_tally_62 rfl (by decide) rfl ?_
  refine r_iconst (v := 0) dX6_tally_63 rfl ?_
  refine r_istore_n (i := 2) [(0, .ref (ad_ G 27)), (1, .int 1), (2, .int 0)] [1, 2, 0] dX6_tally_64 rfl (by decide) rfl ?_
  have key : ∀ ex, lp (fun w32 : Int32 × Int32 × St => bX6_tally_65  w32.1 w32.2.1 w32.2.2) 5000 (1, 0, S31) = some ex → (fun u40 : St => Rn G shX 5 yX6_tally cX6_tally 3 none 97 [] [] u40 post) ex → Rn G shX 5 yX6_tally cX6_tally 3 none 65 [(0, .ref (ad_ G 27)), (1, .int 1), (2, .int 0)] [] S31 post := by
    intro ex hl hx
    refine lp_rule (body := (fun w32 : Int32 × Int32 × St => bX6_tally_65  w32.1 w32.2.1 w32.2.2)) (R := (fun w32 : Int32 × Int32 × St => Rn G shX 5 yX6_tally cX6_tally 3 none 65 [(0, .ref (ad_ G 27)), (1, .int w32.1), (2, .int w32.2.1)] [] w32.2.2 post)) (X := (fun u40 : St => Rn G shX 5 yX6_tally cX6_tally 3 none 97 [] [] u40 post)) ?_ 5000 (1, 0, S31) ex hl hx
    intro w32 oo h hB hX
    obtain ⟨v33, v34, S35⟩ := w32
    replace h : bX6_tally_65  v33 v34 S35 = some oo := h
    unfold bX6_tally_65 at h
    show Rn G shX 5 yX6_tally cX6_tally 3 none 65 [(0, .ref (ad_ G 27)), (1, .int v33), (2, .int v34)] [] S35 post
    refine r_iload_n 2 dX6_tally_65 rfl rfl ?_
    refine r_sipush (v := 128) dX6_tally_66 rfl ?_
    refine r_icmp_ge 97 dX6_tally_69 (by decide) (fun c39 => ?_) (fun c39 => ?_)
    · rw [if_pos c39] at h
      refine r_sub [] [] rfl ?_
      obtain rfl := Option.some.inj h
      exact hX S35 rfl
    · rw [if_neg c39] at h
      refine r_iload_n 1 dX6_tally_72 rfl rfl ?_
      refine r_if_le 97 dX6_tally_73 (by decide) (fun c38 => ?_) (fun c38 => ?_)
      · rw [if_pos c38] at h
        refine r_sub [] [] rfl ?_
        obtain rfl := Option.some.inj h
        exact hX S35 rfl
      · rw [if_neg c38] at h
        refine r_iinc (v := v33 + (-1)) [(0, .ref (ad_ G 27)), (1, .int (v33 + (-1))), (2, .int v34)] 1 [1, 0, 2] dX6_tally_76 rfl rfl (by decide) rfl ?_
        refine r_aload_n 0 dX6_tally_79 rfl rfl ?_
        refine r_aload_n 0 dX6_tally_80 rfl rfl ?_
        refine r_getC (k := 27) (j := 9) (r := 34) sX_27 rfl fl_X6_35 dX6_tally_81 ?_
        refine r_iload_n 1 dX6_tally_84 rfl rfl ?_
        obtain ⟨x36, hx36, h⟩ := b1_some h
        refine r_iaload sX_34 hx36 dX6_tally_85 ?_
        refine r_iload_n 1 dX6_tally_86 rfl rfl ?_
        obtain ⟨q37, hq37, h⟩ := b1_some h
        refine r_callVi (k := 27) (rest := []) (by omega) (mX6_tallyBlock hq37) sX_27 rfl rfl cb_X6_tallyBlock ml_X6_139 im_X6_tallyBlock se_X6_tallyBlock rfl rfl (Nat.le_of_ble_eq_true rfl) dX6_tally_87 ?_
        refine r_istore_n (i := 1) [(0, .ref (ad_ G 27)), (1, .int q37.1), (2, .int v34)] [1, 0, 2] dX6_tally_90 rfl (by decide) rfl ?_
        refine r_iinc (v := v34 + 1) [(0, .ref (ad_ G 27)), (1, .int q37.1), (2, .int (v34 + 1))] 2 [1, 2, 0] dX6_tally_91 rfl rfl (by decide) rfl ?_
        refine r_goto 65 dX6_tally_94 (by decide) ?_
        obtain rfl := Option.some.inj h
        exact hB (q37.1, v34 + 1, q37.2) rfl
  obtain ⟨u40, hu40, h⟩ := b1_some h
  refine key u40 hu40 ?_
  show Rn G shX 5 yX6_tally cX6_tally 3 none 97 [] [] u40 post
  obtain rfl := Option.some.inj h
  exact r_return rfl dX6_tally_97 (hp)
theorem mX6_tally {G : Gx} {S : St} {o : St}  (h : fX6_tally S = some o) : MR_ G shX 5 yX6_tally cX6_tally 3 none [.ref (ad_ G 27)] S (PV_ o) := MR_of cb_X6_tally (Nat.le_of_ble_eq_true rfl) [(0, .ref (ad_ G 27))] rfl (tX6_tally  h ⟨rfl, rfl⟩)
set_option maxRecDepth 100000 in
set_option maxHeartbeats 4000000 in
theorem tX11_sawn {G : Gx} {post : Option Value → St → Prop} {S : St} {v1 : Int32} {o : (Int32 × St)}  (h : fX11_sawn S v1 = some o) (hp : post (some (.int o.1)) o.2) : Rn G shX 6 yX11_sawn cX11_sawn 4 (some .int) 0 [(0, .ref (ad_ G 0)), (1, .int v1)] [] S post := by
  unfold fX11_sawn at h
  refine r_iload_n 1 dX11_sawn_0 rfl rfl ?_
  refine r_bipush (v := 10) dX11_sawn_1 rfl ?_
  refine r_bipush (v := 9) dX11_sawn_3 rfl ?_
  refine r_aload_n 0 dX11_sawn_5 rfl rfl ?_
  refine r_getC (k := 0) (j := 2) (r := 21) sX_0 rfl fl_X11_26 dX11_sawn_6 ?_
  refine r_getI (k := 21) (j := 5) sX_21 rfl fl_X11_142 dX11_sawn_9 ?_
  refine r_iadd dX11_sawn_12 ?_
  obtain ⟨x21, hx21, h⟩ := b1_some h
  refine r_callSi (rest := []) (by omega) (mX11_within hx21) cb_X11_within ml_X11_103 sm_X11_within rfl rfl (Nat.le_of_ble_eq_true rfl) dX11_sawn_13 ?_
  refine r_istore_n (i := 2) [(0, .ref (ad_ G 0)), (1, .int v1), (2, .int x21)] [1, 2, 0] dX11_sawn_16 rfl (by decide) rfl ?_
  refine r_iload_n 1 dX11_sawn_17 rfl rfl ?_
  refine r_iconst (v := 0) dX11_sawn_18 rfl ?_
  refine r_iconst (v := 3) dX11_sawn_19 rfl ?_
  obtain ⟨x22, hx22, h⟩ := b1_some h
  refine r_callSi (rest := []) (by omega) (mX11_within hx22) cb_X11_within ml_X11_103 sm_X11_within rfl rfl (Nat.le_of_ble_eq_true rfl) dX11_sawn_20 ?_
  have key : ∀ ex, ((if x22 = 0 then (if x21 = 0 then some (.inr ((-1), S)) else some (.inl ())) else some (.inl ())) : Option ((Unit) ⊕ (Int32 × St))) = some ex → (∀ w23, ex = .inl w23 → Rn G shX 6 yX11_sawn cX11_sawn 4 (some .int) 32 [(0, .ref (ad_ G 0)), (1, .int v1), (2, .int x21)] [] S post) → (∀ r33, ex = .inr r33 → post (some (.int r33.1)) r33.2) → Rn G shX 6 yX11_sawn cX11_sawn 4 (some .int) 23 [(0, .ref (ad_ G 0)), (1, .int v1), (2, .int x21)] [.int x22] S post := by
    intro ex h hJ0 hR
    refine r_if_ne 32 dX11_sawn_23 (by decide) (fun c32 => ?_) (fun c32 => ?_)
    · rw [if_neg c32] at h
      obtain rfl := Option.some.inj h
      exact hJ0 _ rfl
    · rw [if_pos c32] at h
      refine r_iload_n 2 dX11_sawn_26 rfl rfl ?_
      refine r_if_ne 32 dX11_sawn_27 (by decide) (fun c31 => ?_) (fun c31 => ?_)
      · rw [if_neg c31] at h
        obtain rfl := Option.some.inj h
        exact hJ0 _ rfl
      · rw [if_pos c31] at h
        refine r_iconst (v := (-1)) dX11_sawn_30 rfl ?_
        obtain rfl := Option.some.inj h
        exact r_ireturn rfl dX11_sawn_31 (hR ((-1), S) rfl)
  rcases bs_some h with ⟨w23, hw23, h⟩ | ⟨r33, hw23, h⟩
  · refine key _ hw23 (fun z ez => ?_) (fun z ez => by cases ez)
    cases ez
    refine r_aload_n 0 dX11_sawn_32 rfl rfl ?_
    refine r_aload_n 0 dX11_sawn_33 rfl rfl ?_
    refine r_getC (k := 0) (j := 0) (r := 1) sX_0 rfl fl_X11_10 dX11_sawn_34 ?_
    refine r_getL (k := 1) (j := 2) sX_1 rfl fl_X11_122 dX11_sawn_37 ?_
    obtain ⟨q24, hq24, h⟩ := b1_some h
    refine r_callVi (k := 0) (rest := []) (by omega) (mX11_mostWith hq24) sX_0 rfl rfl cb_X11_mostWith ml_X11_194 im_X11_mostWith se_X11_mostWith rfl rfl (Nat.le_of_ble_eq_true rfl) dX11_sawn_40 ?_
    refine r_istore_n (i := 3) [(0, .ref (ad_ G 0)), (1, .int v1), (2, .int x21), (3, .int q24.1)] [1, 2, 3, 0] dX11_sawn_43 rfl (by decide) rfl ?_
    refine r_iload_n 1 dX11_sawn_44 rfl rfl ?_
    refine r_if_ne 50 dX11_sawn_45 (by decide) (fun c30 => ?_) (fun c30 => ?_)
    · rw [if_neg c30] at h
      refine r_aload_n 0 dX11_sawn_50 rfl rfl ?_
      refine r_getC (k := 0) (j := 3) (r := 27) sX_0 rfl fl_X11_35 dX11_sawn_51 ?_
      obtain ⟨S25, hS25, h⟩ := b1_some h
      refine r_callVv (k := 27) (rest := []) (by omega) (mX6_tally hS25) sX_27 rfl rfl cb_X6_tally ml_X11_198 im_X6_tally se_X6_tally rfl rfl (Nat.le_of_ble_eq_true rfl) dX11_sawn_54 ?_
      refine r_iload_n 2 dX11_sawn_57 rfl rfl ?_
      refine r_if_eq 74 dX11_sawn_58 (by decide) (fun c29 => ?_) (fun c29 => ?_)
      · rw [if_pos c29] at h
        refine r_iload_n 1 dX11_sawn_74 rfl rfl ?_
        refine r_iconst (v := 1) dX11_sawn_75 rfl ?_
        refine r_icmp_ne 89 dX11_sawn_76 (by decide) (fun c27 => ?_) (fun c27 => ?_)
        · rw [if_neg c27] at h
          refine r_iload_n 1 dX11_sawn_89 rfl rfl ?_
          refine r_iconst (v := 2) dX11_sawn_90 rfl ?_
          refine r_icmp_ne 104 dX11_sawn_91 (by decide) (fun c26 => ?_) (fun c26 => ?_)
          · rw [if_neg c26] at h
            refine r_aload_n 0 dX11_sawn_104 rfl rfl ?_
            refine r_getC (k := 0) (j := 3) (r := 27) sX_0 rfl fl_X11_35 dX11_sawn_105 ?_
            refine r_getI (k := 27) (j := 13) sX_27 rfl fl_X11_210 dX11_sawn_108 ?_
            obtain rfl := Option.some.inj h
            exact r_ireturn rfl dX11_sawn_111 (hp)
          · rw [if_pos c26] at h
            refine r_aload_n 0 dX11_sawn_94 rfl rfl ?_
            refine r_getC (k := 0) (j := 3) (r := 27) sX_0 rfl fl_X11_35 dX11_sawn_95 ?_
            refine r_getI (k := 27) (j := 12) sX_27 rfl fl_X11_207 dX11_sawn_98 ?_
            refine r_goto 111 dX11_sawn_101 (by decide) ?_
            obtain rfl := Option.some.inj h
            exact r_ireturn rfl dX11_sawn_111 (hp)
        · rw [if_pos c27] at h
          refine r_aload_n 0 dX11_sawn_79 rfl rfl ?_
          refine r_getC (k := 0) (j := 3) (r := 27) sX_0 rfl fl_X11_35 dX11_sawn_80 ?_
          refine r_getI (k := 27) (j := 11) sX_27 rfl fl_X11_204 dX11_sawn_83 ?_
          refine r_goto 111 dX11_sawn_86 (by decide) ?_
          obtain rfl := Option.some.inj h
          exact r_ireturn rfl dX11_sawn_111 (hp)
      · rw [if_neg c29] at h
        refine r_aload_n 0 dX11_sawn_61 rfl rfl ?_
        refine r_getC (k := 0) (j := 3) (r := 27) sX_0 rfl fl_X11_35 dX11_sawn_62 ?_
        refine r_getC (k := 27) (j := 10) (r := 35) sX_27 rfl fl_X11_201 dX11_sawn_65 ?_
        refine r_iload_n 1 dX11_sawn_68 rfl rfl ?_
        refine r_bipush (v := 10) dX11_sawn_69 rfl ?_
        refine r_isub dX11_sawn_71 ?_
        obtain ⟨x28, hx28, h⟩ := b1_some h
        refine r_iaload sX_35 hx28 dX11_sawn_72 ?_
        obtain rfl := Option.some.inj h
        exact r_ireturn rfl dX11_sawn_73 (hp)
    · rw [if_pos c30] at h
      refine r_iload_n 3 dX11_sawn_48 rfl rfl ?_
      obtain rfl := Option.some.inj h
      exact r_ireturn rfl dX11_sawn_49 (hp)
  · refine key _ hw23 (fun z ez => by cases ez) (fun z ez => ?_)
    cases ez
    obtain rfl := Option.some.inj h
    exact hp
theorem mX11_sawn {G : Gx} {S : St} {v1 : Int32} {o : (Int32 × St)}  (h : fX11_sawn S v1 = some o) : MR_ G shX 6 yX11_sawn cX11_sawn 4 (some .int) [.ref (ad_ G 0), .int v1] S (PI_ o.1 o.2) := MR_of cb_X11_sawn (Nat.le_of_ble_eq_true rfl) [(0, .ref (ad_ G 0)), (1, .int v1)] rfl (tX11_sawn  h ⟨rfl, rfl⟩)
set_option maxRecDepth 100000 in
set_option maxHeartbeats 4000000 in
theorem tX11_costs {G : Gx} {post : Option Value → St → Prop} {S : St} {v1 : Int32} {v2 : Int32} {o : (Int32 × St)}  (h : fX11_costs S v1 v2 = some o) (hp : post (some (.int o.1)) o.2) : Rn G shX 6 yX11_costs cX11_costs 3 (some .int) 0 [(0, .ref (ad_ G 0)), (1, .int v1), (2, .int v2)] [] S post := by
  unfold fX11_costs at h
  refine r_aload_n 0 dX11_costs_0 rfl rfl ?_
  refine r_getC (k := 0) (j := 0) (r := 1) sX_0 rfl fl_X11_10 dX11_costs_1 ?_
  refine r_iload_n 1 dX11_costs_4 rfl rfl ?_
  refine r_iload_n 2 dX11_costs_5 rfl rfl ?_
  obtain ⟨x21, hx21, h⟩ := b1_some h
  refine r_callVi (k := 1) (rest := []) (by omega) (mX1_hasSquare is_1 hx21) sX_1 rfl rfl cb_X1_hasSquare ml_X11_114 im_X1_hasSquare se_X1_hasSquare rfl rfl (Nat.le_of_ble_eq_true rfl) dX11_costs_6 ?_
  refine r_if_ne 14 dX11_costs_9 (by decide) (fun c25 => ?_) (fun c25 => ?_)
  · rw [if_neg c25] at h
    refine r_aload_n 0 dX11_costs_14 rfl rfl ?_
    refine r_aload_n 0 dX11_costs_15 rfl rfl ?_
    refine r_getC (k := 0) (j := 0) (r := 1) sX_0 rfl fl_X11_10 dX11_costs_16 ?_
    refine r_getL (k := 1) (j := 2) sX_1 rfl fl_X11_122 dX11_costs_19 ?_
    obtain ⟨q22, hq22, h⟩ := b1_some h
    refine r_callVi (k := 0) (rest := []) (by omega) (mX11_mostWith hq22) sX_0 rfl rfl cb_X11_mostWith ml_X11_194 im_X11_mostWith se_X11_mostWith rfl rfl (Nat.le_of_ble_eq_true rfl) dX11_costs_22 ?_
    refine r_aload_n 0 dX11_costs_25 rfl rfl ?_
    refine r_aload_n 0 dX11_costs_26 rfl rfl ?_
    refine r_getC (k := 0) (j := 0) (r := 1) sX_0 rfl fl_X11_10 dX11_costs_27 ?_
    refine r_getL (k := 1) (j := 2) sX_1 rfl fl_X11_122 dX11_costs_30 ?_
    refine r_iload_n 1 dX11_costs_33 rfl rfl ?_
    refine r_iload_n 2 dX11_costs_34 rfl rfl ?_
    refine r_iconst (v := 1) dX11_costs_35 rfl ?_
    obtain ⟨x23, hx23, h⟩ := b1_some h
    refine r_callSl (rest := [.ref (ad_ G 0), .int q22.1]) (by omega) (mX11_withBit hx23) cb_X11_withBit ml_X11_130 sm_X11_withBit rfl rfl (Nat.le_of_ble_eq_true rfl) dX11_costs_36 ?_
    obtain ⟨q24, hq24, h⟩ := b1_some h
    refine r_callVi (k := 0) (rest := [.int q22.1]) (by omega) (mX11_mostWith hq24) sX_0 rfl rfl cb_X11_mostWith ml_X11_194 im_X11_mostWith se_X11_mostWith rfl rfl (Nat.le_of_ble_eq_true rfl) dX11_costs_39 ?_
    refine r_isub dX11_costs_42 ?_
    obtain rfl := Option.some.inj h
    exact r_ireturn rfl dX11_costs_43 (hp)
  · rw [if_pos c25] at h
    refine r_iconst (v := (-1)) dX11_costs_12 rfl ?_
    obtain rfl := Option.some.inj h
    exact r_ireturn rfl dX11_costs_13 (hp)
theorem mX11_costs {G : Gx} {S : St} {v1 : Int32} {v2 : Int32} {o : (Int32 × St)}  (h : fX11_costs S v1 v2 = some o) : MR_ G shX 6 yX11_costs cX11_costs 3 (some .int) [.ref (ad_ G 0), .int v1, .int v2] S (PI_ o.1 o.2) := MR_of cb_X11_costs (Nat.le_of_ble_eq_true rfl) [(0, .ref (ad_ G 0)), (1, .int v1), (2, .int v2)] rfl (tX11_costs  h ⟨rfl, rfl⟩)
set_option maxRecDepth 100000 in
set_option maxHeartbeats 4000000 in
theorem tX0_takeBack {G : Gx} {post : Option Value → St → Prop} {k1 : Nat} {S : St} {o : St} (hk1 : IsBd k1) (h : fX0_takeBack k1 S = some o) (hp : post none o) : Rn G shX 2 yX0_takeBack cX0_takeBack 2 none 0 [(0, .ref (ad_ G 3)), (1, .ref (ad_ G k1))] [] S post := by
  unfold fX0_takeBack at h
  refine r_aload_n 0 dX0_takeBack_0 rfl rfl ?_
  refine r_aload_n 0 dX0_takeBack_1 rfl rfl ?_
  refine r_getI (k := 3) (j := 1) sX_3 rfl fl_X0_17 dX0_takeBack_2 ?_
  obtain ⟨w21, hw21, h⟩ := b1_some h
  have hJ : Rn G shX 2 yX0_takeBack cX0_takeBack 2 none 19 [(0, .ref (ad_ G 3)), (1, .ref (ad_ G k1))] [.int w21, .ref (ad_ G 3)] S post := by
    obtain ⟨S22, hS22, h⟩ := b1_some h
    refine r_setI (k := 3) (j := 1) sX_3 rfl pf_X0_17 hS22 dX0_takeBack_19 ?_
    refine r_aload_n 0 dX0_takeBack_22 rfl rfl ?_
    refine r_dup dX0_takeBack_23 rfl ?_
    refine r_getI (k := 3) (j := 2) sX_3 rfl fl_X0_21 dX0_takeBack_24 ?_
    refine r_iconst (v := 1) dX0_takeBack_27 rfl ?_
    refine r_isub dX0_takeBack_28 ?_
    obtain ⟨S23, hS23, h⟩ := b1_some h
    refine r_setI (k := 3) (j := 2) sX_3 rfl pf_X0_21 hS23 dX0_takeBack_29 ?_
    refine r_aload_n 1 dX0_takeBack_32 rfl rfl ?_
    refine r_aload_n 0 dX0_takeBack_33 rfl rfl ?_
    refine r_getC (k := 3) (j := 0) (r := 4) sX_3 rfl fl_X0_11 dX0_takeBack_34 ?_
    refine r_aload_n 0 dX0_takeBack_37 rfl rfl ?_
    refine r_getI (k := 3) (j := 1) sX_3 rfl fl_X0_17 dX0_takeBack_38 ?_
    obtain ⟨k24, hk24, h⟩ := b1_some h
    have ik24 := is_acts hk24
    refine r_aaload (t := 0) sX_4 rfl hk24 dX0_takeBack_41 ?_
    obtain ⟨S25, hS25, h⟩ := b1_some h
    refine r_callVv (k := k1) (rest := []) (by omega) (mX1_copyFrom hk1 ik24 hS25) hk1.1 rfl rfl cb_X1_copyFrom ml_X0_25 im_X1_copyFrom se_X1_copyFrom rfl rfl (Nat.le_of_ble_eq_true rfl) dX0_takeBack_42 ?_
    obtain rfl := Option.some.inj h
    exact r_return rfl dX0_takeBack_45 (hp)
  clear h
  replace h := hw21
  refine r_if_ne 13 dX0_takeBack_5 (by decide) (fun c26 => ?_) (fun c26 => ?_)
  · rw [if_neg c26] at h
    refine r_aload_n 0 dX0_takeBack_13 rfl rfl ?_
    refine r_getI (k := 3) (j := 1) sX_3 rfl fl_X0_17 dX0_takeBack_14 ?_
    refine r_iconst (v := 1) dX0_takeBack_17 rfl ?_
    refine r_isub dX0_takeBack_18 ?_
    obtain rfl := Option.some.inj h
    exact hJ
  · rw [if_pos c26] at h
    refine r_bipush (v := 7) dX0_takeBack_8 rfl ?_
    refine r_goto 19 dX0_takeBack_10 (by decide) ?_
    obtain rfl := Option.some.inj h
    exact hJ
theorem mX0_takeBack {G : Gx} {k1 : Nat} {S : St} {o : St} (hk1 : IsBd k1) (h : fX0_takeBack k1 S = some o) : MR_ G shX 2 yX0_takeBack cX0_takeBack 2 none [.ref (ad_ G 3), .ref (ad_ G k1)] S (PV_ o) := MR_of cb_X0_takeBack (Nat.le_of_ble_eq_true rfl) [(0, .ref (ad_ G 3)), (1, .ref (ad_ G k1))] rfl (tX0_takeBack hk1 h ⟨rfl, rfl⟩)
set_option maxRecDepth 100000 in
set_option maxHeartbeats 4000000 in
theorem tX11_undo {G : Gx} {post : Option Value → St → Prop} {S : St} {o : (Int32 × St)}  (h : fX11_undo S = some o) (hp : post (some (.int o.1)) o.2) : Rn G shX 3 yX11_undo cX11_undo 1 (some .int) 0 [(0, .ref (ad_ G 0))] [] S post := by
  unfold fX11_undo at h
  refine r_aload_n 0 dX11_undo_0 rfl rfl ?_
  refine r_getC (k := 0) (j := 1) (r := 3) sX_0 rfl fl_X11_19 dX11_undo_1 ?_
  refine r_getI (k := 3) (j := 2) sX_3 rfl fl_X11_111 dX11_undo_4 ?_
  refine r_if_ne 13 dX11_undo_7 (by decide) (fun c22 => ?_) (fun c22 => ?_)
  · rw [if_neg c22] at h
    refine r_aload_n 0 dX11_undo_13 rfl rfl ?_
    refine r_getC (k := 0) (j := 1) (r := 3) sX_0 rfl fl_X11_19 dX11_undo_14 ?_
    refine r_aload_n 0 dX11_undo_17 rfl rfl ?_
    refine r_getC (k := 0) (j := 0) (r := 1) sX_0 rfl fl_X11_10 dX11_undo_18 ?_
    obtain ⟨S21, hS21, h⟩ := b1_some h
    refine r_callVv (k := 3) (rest := []) (by omega) (mX0_takeBack is_1 hS21) sX_3 rfl rfl cb_X0_takeBack ml_X11_213 im_X0_takeBack se_X0_takeBack rfl rfl (Nat.le_of_ble_eq_true rfl) dX11_undo_21 ?_
    refine r_aload_n 0 dX11_undo_24 rfl rfl ?_
    refine r_getC (k := 0) (j := 1) (r := 3) sX_0 rfl fl_X11_19 dX11_undo_25 ?_
    refine r_getI (k := 3) (j := 2) sX_3 rfl fl_X11_111 dX11_undo_28 ?_
    obtain rfl := Option.some.inj h
    exact r_ireturn rfl dX11_undo_31 (hp)
  · rw [if_pos c22] at h
    refine r_bipush (v := (-4)) dX11_undo_10 rfl ?_
    obtain rfl := Option.some.inj h
    exact r_ireturn rfl dX11_undo_12 (hp)
theorem mX11_undo {G : Gx} {S : St} {o : (Int32 × St)}  (h : fX11_undo S = some o) : MR_ G shX 3 yX11_undo cX11_undo 1 (some .int) [.ref (ad_ G 0)] S (PI_ o.1 o.2) := MR_of cb_X11_undo (Nat.le_of_ble_eq_true rfl) [(0, .ref (ad_ G 0))] rfl (tX11_undo  h ⟨rfl, rfl⟩)
set_option maxRecDepth 100000 in
set_option maxHeartbeats 4000000 in
theorem tX11_world {G : Gx} {post : Option Value → St → Prop} {S : St} {o : (Int32 × St)}  (h : fX11_world S = some o) (hp : post (some (.int o.1)) o.2) : Rn G shX 0 yX11_world cX11_world 1 (some .int) 0 [(0, .ref (ad_ G 0))] [] S post := by
  unfold fX11_world at h
  refine r_aload_n 0 dX11_world_0 rfl rfl ?_
  refine r_getI (k := 0) (j := 5) sX_0 rfl fl_X11_43 dX11_world_1 ?_
  refine r_iconst (v := 4) dX11_world_4 rfl ?_
  refine r_icmp_lt 11 dX11_world_5 (by decide) (fun c23 => ?_) (fun c23 => ?_)
  · rw [if_pos c23] at h
    refine r_aload_n 0 dX11_world_11 rfl rfl ?_
    refine r_getC (k := 0) (j := 4) (r := 36) sX_0 rfl fl_X11_39 dX11_world_12 ?_
    refine r_aload_n 0 dX11_world_15 rfl rfl ?_
    refine r_getI (k := 0) (j := 5) sX_0 rfl fl_X11_43 dX11_world_16 ?_
    refine r_lconst (v := 0) dX11_world_19 rfl ?_
    obtain ⟨S21, hS21, h⟩ := b1_some h
    refine r_lastore sX_36 hS21 dX11_world_20 ?_
    refine r_aload_n 0 dX11_world_21 rfl rfl ?_
    refine r_dup dX11_world_22 rfl ?_
    refine r_getI (k := 0) (j := 5) sX_0 rfl fl_X11_43 dX11_world_23 ?_
    refine r_iconst (v := 1) dX11_world_26 rfl ?_
    refine r_iadd dX11_world_27 ?_
    obtain ⟨S22, hS22, h⟩ := b1_some h
    refine r_setI (k := 0) (j := 5) sX_0 rfl pf_X11_43 hS22 dX11_world_28 ?_
    refine r_aload_n 0 dX11_world_31 rfl rfl ?_
    refine r_getI (k := 0) (j := 5) sX_0 rfl fl_X11_43 dX11_world_32 ?_
    refine r_iconst (v := 1) dX11_world_35 rfl ?_
    refine r_isub dX11_world_36 ?_
    obtain rfl := Option.some.inj h
    exact r_ireturn rfl dX11_world_37 (hp)
  · rw [if_neg c23] at h
    refine r_bipush (v := (-3)) dX11_world_8 rfl ?_
    obtain rfl := Option.some.inj h
    exact r_ireturn rfl dX11_world_10 (hp)
theorem mX11_world {G : Gx} {S : St} {o : (Int32 × St)}  (h : fX11_world S = some o) : MR_ G shX 0 yX11_world cX11_world 1 (some .int) [.ref (ad_ G 0)] S (PI_ o.1 o.2) := MR_of cb_X11_world (Nat.le_of_ble_eq_true rfl) [(0, .ref (ad_ G 0))] rfl (tX11_world  h ⟨rfl, rfl⟩)
set_option maxRecDepth 100000 in
set_option maxHeartbeats 4000000 in
theorem tX11_doubt {G : Gx} {post : Option Value → St → Prop} {S : St} {v1 : Int32} {v2 : Int32} {v3 : Int32} {v4 : Int32} {o : (Int32 × St)}  (h : fX11_doubt S v1 v2 v3 v4 = some o) (hp : post (some (.int o.1)) o.2) : Rn G shX 2 yX11_doubt cX11_doubt 6 (some .int) 0 [(0, .ref (ad_ G 0)), (1, .int v1), (2, .int v2), (3, .int v3), (4, .int v4)] [] S post := by
  unfold fX11_doubt at h
  refine r_iload_n 1 dX11_doubt_0 rfl rfl ?_
  refine r_iconst (v := 0) dX11_doubt_1 rfl ?_
  refine r_aload_n 0 dX11_doubt_2 rfl rfl ?_
  refine r_getI (k := 0) (j := 5) sX_0 rfl fl_X11_43 dX11_doubt_3 ?_
  refine r_iconst (v := 1) dX11_doubt_6 rfl ?_
  refine r_isub dX11_doubt_7 ?_
  obtain ⟨x21, hx21, h⟩ := b1_some h
  refine r_callSi (rest := []) (by omega) (mX11_within hx21) cb_X11_within ml_X11_103 sm_X11_within rfl rfl (Nat.le_of_ble_eq_true rfl) dX11_doubt_8 ?_
  refine r_if_eq 26 dX11_doubt_11 (by decide) (fun c29 => ?_) (fun c29 => ?_)
  · rw [if_pos c29] at h
    refine r_iconst (v := (-1)) dX11_doubt_26 rfl ?_
    obtain rfl := Option.some.inj h
    exact r_ireturn rfl dX11_doubt_27 (hp)
  · rw [if_neg c29] at h
    refine r_aload_n 0 dX11_doubt_14 rfl rfl ?_
    refine r_getC (k := 0) (j := 0) (r := 1) sX_0 rfl fl_X11_10 dX11_doubt_15 ?_
    refine r_iload_n 2 dX11_doubt_18 rfl rfl ?_
    refine r_iload_n 3 dX11_doubt_19 rfl rfl ?_
    obtain ⟨x22, hx22, h⟩ := b1_some h
    refine r_callVi (k := 1) (rest := []) (by omega) (mX1_hasSquare is_1 hx22) sX_1 rfl rfl cb_X1_hasSquare ml_X11_114 im_X1_hasSquare se_X1_hasSquare rfl rfl (Nat.le_of_ble_eq_true rfl) dX11_doubt_20 ?_
    refine r_if_ne 28 dX11_doubt_23 (by decide) (fun c28 => ?_) (fun c28 => ?_)
    · rw [if_neg c28] at h
      refine r_aload_n 0 dX11_doubt_28 rfl rfl ?_
      refine r_getC (k := 0) (j := 4) (r := 36) sX_0 rfl fl_X11_39 dX11_doubt_29 ?_
      refine r_iload_n 1 dX11_doubt_32 rfl rfl ?_
      obtain ⟨x23, hx23, h⟩ := b1_some h
      refine r_laload sX_36 hx23 dX11_doubt_33 ?_
      refine r_iload_n 2 dX11_doubt_34 rfl rfl ?_
      refine r_iload_n 3 dX11_doubt_35 rfl rfl ?_
      obtain ⟨x24, hx24, h⟩ := b1_some h
      refine r_callSi (rest := []) (by omega) (mX11_bit hx24) cb_X11_bit ml_X11_126 sm_X11_bit rfl rfl (Nat.le_of_ble_eq_true rfl) dX11_doubt_36 ?_
      refine r_istore (i := 5) [(0, .ref (ad_ G 0)), (1, .int v1), (2, .int v2), (3, .int v3), (4, .int v4), (5, .int x24)] [1, 2, 3, 4, 5, 0] dX11_doubt_39 (by decide) rfl ?_
      refine r_aload_n 0 dX11_doubt_41 rfl rfl ?_
      refine r_getC (k := 0) (j := 4) (r := 36) sX_0 rfl fl_X11_39 dX11_doubt_42 ?_
      refine r_iload_n 1 dX11_doubt_45 rfl rfl ?_
      refine r_aload_n 0 dX11_doubt_46 rfl rfl ?_
      refine r_getC (k := 0) (j := 4) (r := 36) sX_0 rfl fl_X11_39 dX11_doubt_47 ?_
      refine r_iload_n 1 dX11_doubt_50 rfl rfl ?_
      obtain ⟨x25, hx25, h⟩ := b1_some h
      refine r_laload sX_36 hx25 dX11_doubt_51 ?_
      refine r_iload_n 2 dX11_doubt_52 rfl rfl ?_
      refine r_iload_n 3 dX11_doubt_53 rfl rfl ?_
      refine r_iload 4 dX11_doubt_54 rfl ?_
      obtain ⟨x26, hx26, h⟩ := b1_some h
      refine r_callSl (rest := [.int v1, .ref (ad_ G 36)]) (by omega) (mX11_withBit hx26) cb_X11_withBit ml_X11_130 sm_X11_withBit rfl rfl (Nat.le_of_ble_eq_true rfl) dX11_doubt_56 ?_
      obtain ⟨S27, hS27, h⟩ := b1_some h
      refine r_lastore sX_36 hS27 dX11_doubt_59 ?_
      refine r_iload 5 dX11_doubt_60 rfl ?_
      obtain rfl := Option.some.inj h
      exact r_ireturn rfl dX11_doubt_62 (hp)
    · rw [if_pos c28] at h
      refine r_iconst (v := (-1)) dX11_doubt_26 rfl ?_
      obtain rfl := Option.some.inj h
      exact r_ireturn rfl dX11_doubt_27 (hp)
theorem mX11_doubt {G : Gx} {S : St} {v1 : Int32} {v2 : Int32} {v3 : Int32} {v4 : Int32} {o : (Int32 × St)}  (h : fX11_doubt S v1 v2 v3 v4 = some o) : MR_ G shX 2 yX11_doubt cX11_doubt 6 (some .int) [.ref (ad_ G 0), .int v1, .int v2, .int v3, .int v4] S (PI_ o.1 o.2) := MR_of cb_X11_doubt (Nat.le_of_ble_eq_true rfl) [(0, .ref (ad_ G 0)), (1, .int v1), (2, .int v2), (3, .int v3), (4, .int v4)] rfl (tX11_doubt  h ⟨rfl, rfl⟩)
set_option maxRecDepth 100000 in
set_option maxHeartbeats 4000000 in
theorem tX11_mostInWorld {G : Gx} {post : Option Value → St → Prop} {S : St} {v1 : Int32} {o : (Int32 × St)}  (h : fX11_mostInWorld S v1 = some o) (hp : post (some (.int o.1)) o.2) : Rn G shX 5 yX11_mostInWorld cX11_mostInWorld 2 (some .int) 0 [(0, .ref (ad_ G 0)), (1, .int v1)] [] S post := by
  unfold fX11_mostInWorld at h
  refine r_aload_n 0 dX11_mostInWorld_0 rfl rfl ?_
  refine r_getC (k := 0) (j := 3) (r := 27) sX_0 rfl fl_X11_35 dX11_mostInWorld_1 ?_
  refine r_aload_n 0 dX11_mostInWorld_4 rfl rfl ?_
  refine r_getC (k := 0) (j := 0) (r := 1) sX_0 rfl fl_X11_10 dX11_mostInWorld_5 ?_
  refine r_getL (k := 1) (j := 2) sX_1 rfl fl_X11_122 dX11_mostInWorld_8 ?_
  refine r_aload_n 0 dX11_mostInWorld_11 rfl rfl ?_
  refine r_getC (k := 0) (j := 4) (r := 36) sX_0 rfl fl_X11_39 dX11_mostInWorld_12 ?_
  refine r_iload_n 1 dX11_mostInWorld_15 rfl rfl ?_
  obtain ⟨x21, hx21, h⟩ := b1_some h
  refine r_laload sX_36 hx21 dX11_mostInWorld_16 ?_
  refine r_lor dX11_mostInWorld_17 ?_
  obtain ⟨S22, hS22, h⟩ := b1_some h
  refine r_callVv (k := 27) (rest := []) (by omega) (mX6_seeOnly hS22) sX_27 rfl rfl cb_X6_seeOnly ml_X11_184 im_X6_seeOnly se_X6_seeOnly rfl rfl (Nat.le_of_ble_eq_true rfl) dX11_mostInWorld_18 ?_
  refine r_aload_n 0 dX11_mostInWorld_21 rfl rfl ?_
  refine r_getC (k := 0) (j := 3) (r := 27) sX_0 rfl fl_X11_35 dX11_mostInWorld_22 ?_
  refine r_iconst (v := 0) dX11_mostInWorld_25 rfl ?_
  refine r_iconst (v := 0) dX11_mostInWorld_26 rfl ?_
  refine r_aload_n 0 dX11_mostInWorld_27 rfl rfl ?_
  refine r_getC (k := 0) (j := 0) (r := 1) sX_0 rfl fl_X11_10 dX11_mostInWorld_28 ?_
  refine r_getI (k := 1) (j := 0) sX_1 rfl fl_X11_216 dX11_mostInWorld_31 ?_
  refine r_aload_n 0 dX11_mostInWorld_34 rfl rfl ?_
  refine r_getC (k := 0) (j := 0) (r := 1) sX_0 rfl fl_X11_10 dX11_mostInWorld_35 ?_
  refine r_getI (k := 1) (j := 1) sX_1 rfl fl_X11_218 dX11_mostInWorld_38 ?_
  obtain ⟨q23, hq23, h⟩ := b1_some h
  refine r_callVi (k := 27) (rest := []) (by omega) (mX6_weigh hq23) sX_27 rfl rfl cb_X6_weigh ml_X11_188 im_X6_weigh se_X6_weigh rfl rfl (Nat.le_of_ble_eq_true rfl) dX11_mostInWorld_41 ?_
  obtain rfl := Option.some.inj h
  exact r_ireturn rfl dX11_mostInWorld_44 (hp)
theorem mX11_mostInWorld {G : Gx} {S : St} {v1 : Int32} {o : (Int32 × St)}  (h : fX11_mostInWorld S v1 = some o) : MR_ G shX 5 yX11_mostInWorld cX11_mostInWorld 2 (some .int) [.ref (ad_ G 0), .int v1] S (PI_ o.1 o.2) := MR_of cb_X11_mostInWorld (Nat.le_of_ble_eq_true rfl) [(0, .ref (ad_ G 0)), (1, .int v1)] rfl (tX11_mostInWorld  h ⟨rfl, rfl⟩)
set_option maxRecDepth 100000 in
set_option maxHeartbeats 4000000 in
theorem tX11_late {G : Gx} {post : Option Value → St → Prop} {S : St} {o : (Int32 × St)}  (h : fX11_late S = some o) (hp : post (some (.int o.1)) o.2) : Rn G shX 6 yX11_late cX11_late 3 (some .int) 0 [(0, .ref (ad_ G 0))] [] S post := by
  unfold fX11_late at h
  refine r_iconst (v := 0) dX11_late_0 rfl ?_
  refine r_istore_n (i := 1) [(0, .ref (ad_ G 0)), (1, .int 0)] [1, 0] dX11_late_1 rfl (by decide) rfl ?_
  refine r_iconst (v := 0) dX11_late_2 rfl ?_
  refine r_istore_n (i := 2) [(0, .ref (ad_ G 0)), (1, .int 0), (2, .int 0)] [1, 2, 0] dX11_late_3 rfl (by decide) rfl ?_
  have key : ∀ ex, lp (fun w21 : Int32 × Int32 × St => bX11_late_4  w21.1 w21.2.1 w21.2.2) 5000 (0, 0, S) = some ex → (fun u27 : Int32 × St => Rn G shX 6 yX11_late cX11_late 3 (some .int) 26 [(1, .int u27.1)] [] u27.2 post) ex → Rn G shX 6 yX11_late cX11_late 3 (some .int) 4 [(0, .ref (ad_ G 0)), (1, .int 0), (2, .int 0)] [] S post := by
    intro ex hl hx
    refine lp_rule (body := (fun w21 : Int32 × Int32 × St => bX11_late_4  w21.1 w21.2.1 w21.2.2)) (R := (fun w21 : Int32 × Int32 × St => Rn G shX 6 yX11_late cX11_late 3 (some .int) 4 [(0, .ref (ad_ G 0)), (1, .int w21.1), (2, .int w21.2.1)] [] w21.2.2 post)) (X := (fun u27 : Int32 × St => Rn G shX 6 yX11_late cX11_late 3 (some .int) 26 [(1, .int u27.1)] [] u27.2 post)) ?_ 5000 (0, 0, S) ex hl hx
    intro w21 oo h hB hX
    obtain ⟨v22, v23, S24⟩ := w21
    replace h : bX11_late_4  v22 v23 S24 = some oo := h
    unfold bX11_late_4 at h
    show Rn G shX 6 yX11_late cX11_late 3 (some .int) 4 [(0, .ref (ad_ G 0)), (1, .int v22), (2, .int v23)] [] S24 post
    refine r_iload_n 2 dX11_late_4 rfl rfl ?_
    refine r_aload_n 0 dX11_late_5 rfl rfl ?_
    refine r_getI (k := 0) (j := 5) sX_0 rfl fl_X11_43 dX11_late_6 ?_
    refine r_icmp_ge 26 dX11_late_9 (by decide) (fun c26 => ?_) (fun c26 => ?_)
    · rw [if_pos c26] at h
      refine r_sub [(1, .int v22)] [1] rfl ?_
      obtain rfl := Option.some.inj h
      exact hX (v22, S24) rfl
    · rw [if_neg c26] at h
      refine r_iload_n 1 dX11_late_12 rfl rfl ?_
      refine r_aload_n 0 dX11_late_13 rfl rfl ?_
      refine r_iload_n 2 dX11_late_14 rfl rfl ?_
      obtain ⟨q25, hq25, h⟩ := b1_some h
      refine r_callVi (k := 0) (rest := [.int v22]) (by omega) (mX11_mostInWorld hq25) sX_0 rfl rfl cb_X11_mostInWorld ml_X11_236 im_X11_mostInWorld se_X11_mostInWorld rfl rfl (Nat.le_of_ble_eq_true rfl) dX11_late_15 ?_
      refine r_iadd dX11_late_18 ?_
      refine r_istore_n (i := 1) [(0, .ref (ad_ G 0)), (1, .int (v22 + q25.1)), (2, .int v23)] [1, 0, 2] dX11_late_19 rfl (by decide) rfl ?_
      refine r_iinc (v := v23 + 1) [(0, .ref (ad_ G 0)), (1, .int (v22 + q25.1)), (2, .int (v23 + 1))] 2 [1, 2, 0] dX11_late_20 rfl rfl (by decide) rfl ?_
      refine r_goto 4 dX11_late_23 (by decide) ?_
      obtain rfl := Option.some.inj h
      exact hB (v22 + q25.1, v23 + 1, q25.2) rfl
  obtain ⟨u27, hu27, h⟩ := b1_some h
  refine key u27 hu27 ?_
  show Rn G shX 6 yX11_late cX11_late 3 (some .int) 26 [(1, .int u27.1)] [] u27.2 post
  refine r_iload_n 0 dX11_late_26 rfl rfl ?_
  obtain rfl := Option.some.inj h
  exact r_ireturn rfl dX11_late_27 (hp)
theorem mX11_late {G : Gx} {S : St} {o : (Int32 × St)}  (h : fX11_late S = some o) : MR_ G shX 6 yX11_late cX11_late 3 (some .int) [.ref (ad_ G 0)] S (PI_ o.1 o.2) := MR_of cb_X11_late (Nat.le_of_ble_eq_true rfl) [(0, .ref (ad_ G 0))] rfl (tX11_late  h ⟨rfl, rfl⟩)
set_option maxRecDepth 100000 in
set_option maxHeartbeats 4000000 in
theorem tX6_seeToo {G : Gx} {post : Option Value → St → Prop} {S : St} {v1 : Int64} {o : St}  (h : fX6_seeToo S v1 = some o) (hp : post none o) : Rn G shX 0 yX6_seeToo cX6_seeToo 3 none 0 [(0, .ref (ad_ G 27)), (1, .long v1)] [] S post := by
  unfold fX6_seeToo at h
  refine r_aload_n 0 dX6_seeToo_0 rfl rfl ?_
  refine r_getI (k := 27) (j := 3) sX_27 rfl fl_X6_15 dX6_seeToo_1 ?_
  refine r_iconst (v := 4) dX6_seeToo_4 rfl ?_
  refine r_icmp_ge 28 dX6_seeToo_5 (by decide) (fun c23 => ?_) (fun c23 => ?_)
  · rw [if_pos c23] at h
    obtain rfl := Option.some.inj h
    exact r_return rfl dX6_seeToo_28 (hp)
  · rw [if_neg c23] at h
    refine r_aload_n 0 dX6_seeToo_8 rfl rfl ?_
    refine r_getC (k := 27) (j := 2) (r := 28) sX_27 rfl fl_X6_9 dX6_seeToo_9 ?_
    refine r_aload_n 0 dX6_seeToo_12 rfl rfl ?_
    refine r_getI (k := 27) (j := 3) sX_27 rfl fl_X6_15 dX6_seeToo_13 ?_
    refine r_lload_n 1 dX6_seeToo_16 rfl rfl ?_
    obtain ⟨S21, hS21, h⟩ := b1_some h
    refine r_lastore sX_28 hS21 dX6_seeToo_17 ?_
    refine r_aload_n 0 dX6_seeToo_18 rfl rfl ?_
    refine r_dup dX6_seeToo_19 rfl ?_
    refine r_getI (k := 27) (j := 3) sX_27 rfl fl_X6_15 dX6_seeToo_20 ?_
    refine r_iconst (v := 1) dX6_seeToo_23 rfl ?_
    refine r_iadd dX6_seeToo_24 ?_
    obtain ⟨S22, hS22, h⟩ := b1_some h
    refine r_setI (k := 27) (j := 3) sX_27 rfl pf_X6_15 hS22 dX6_seeToo_25 ?_
    obtain rfl := Option.some.inj h
    exact r_return rfl dX6_seeToo_28 (hp)
theorem mX6_seeToo {G : Gx} {S : St} {v1 : Int64} {o : St}  (h : fX6_seeToo S v1 = some o) : MR_ G shX 0 yX6_seeToo cX6_seeToo 3 none [.ref (ad_ G 27), .long v1] S (PV_ o) := MR_of cb_X6_seeToo (Nat.le_of_ble_eq_true rfl) [(0, .ref (ad_ G 27)), (1, .long v1)] rfl (tX6_seeToo  h ⟨rfl, rfl⟩)
set_option maxRecDepth 100000 in
set_option maxHeartbeats 4000000 in
theorem tX11_early {G : Gx} {post : Option Value → St → Prop} {S : St} {o : (Int32 × St)}  (h : fX11_early S = some o) (hp : post (some (.int o.1)) o.2) : Rn G shX 5 yX11_early cX11_early 2 (some .int) 0 [(0, .ref (ad_ G 0))] [] S post := by
  unfold fX11_early at h
  refine r_aload_n 0 dX11_early_0 rfl rfl ?_
  refine r_getC (k := 0) (j := 3) (r := 27) sX_0 rfl fl_X11_35 dX11_early_1 ?_
  refine r_aload_n 0 dX11_early_4 rfl rfl ?_
  refine r_getC (k := 0) (j := 0) (r := 1) sX_0 rfl fl_X11_10 dX11_early_5 ?_
  refine r_getL (k := 1) (j := 2) sX_1 rfl fl_X11_122 dX11_early_8 ?_
  refine r_aload_n 0 dX11_early_11 rfl rfl ?_
  refine r_getC (k := 0) (j := 4) (r := 36) sX_0 rfl fl_X11_39 dX11_early_12 ?_
  refine r_iconst (v := 0) dX11_early_15 rfl ?_
  obtain ⟨x21, hx21, h⟩ := b1_some h
  refine r_laload sX_36 hx21 dX11_early_16 ?_
  refine r_lor dX11_early_17 ?_
  obtain ⟨S22, hS22, h⟩ := b1_some h
  refine r_callVv (k := 27) (rest := []) (by omega) (mX6_seeOnly hS22) sX_27 rfl rfl cb_X6_seeOnly ml_X11_184 im_X6_seeOnly se_X6_seeOnly rfl rfl (Nat.le_of_ble_eq_true rfl) dX11_early_18 ?_
  refine r_iconst (v := 1) dX11_early_21 rfl ?_
  refine r_istore_n (i := 1) [(0, .ref (ad_ G 0)), (1, .int 1)] [1, 0] dX11_early_22 rfl (by decide) rfl ?_
  have key : ∀ ex, lp (fun w23 : Int32 × St => bX11_early_23  w23.1 w23.2) 5000 (1, S22) = some ex → (fun u29 : St => Rn G shX 5 yX11_early cX11_early 2 (some .int) 58 [(0, .ref (ad_ G 0))] [] u29 post) ex → Rn G shX 5 yX11_early cX11_early 2 (some .int) 23 [(0, .ref (ad_ G 0)), (1, .int 1)] [] S22 post := by
    intro ex hl hx
    refine lp_rule (body := (fun w23 : Int32 × St => bX11_early_23  w23.1 w23.2)) (R := (fun w23 : Int32 × St => Rn G shX 5 yX11_early cX11_early 2 (some .int) 23 [(0, .ref (ad_ G 0)), (1, .int w23.1)] [] w23.2 post)) (X := (fun u29 : St => Rn G shX 5 yX11_early cX11_early 2 (some .int) 58 [(0, .ref (ad_ G 0))] [] u29 post)) ?_ 5000 (1, S22) ex hl hx
    intro w23 oo h hB hX
    obtain ⟨v24, S25⟩ := w23
    replace h : bX11_early_23  v24 S25 = some oo := h
    unfold bX11_early_23 at h
    show Rn G shX 5 yX11_early cX11_early 2 (some .int) 23 [(0, .ref (ad_ G 0)), (1, .int v24)] [] S25 post
    refine r_iload_n 1 dX11_early_23 rfl rfl ?_
    refine r_aload_n 0 dX11_early_24 rfl rfl ?_
    refine r_getI (k := 0) (j := 5) sX_0 rfl fl_X11_43 dX11_early_25 ?_
    refine r_icmp_ge 58 dX11_early_28 (by decide) (fun c28 => ?_) (fun c28 => ?_)
    · rw [if_pos c28] at h
      refine r_sub [(0, .ref (ad_ G 0))] [0] rfl ?_
      obtain rfl := Option.some.inj h
      exact hX S25 rfl
    · rw [if_neg c28] at h
      refine r_aload_n 0 dX11_early_31 rfl rfl ?_
      refine r_getC (k := 0) (j := 3) (r := 27) sX_0 rfl fl_X11_35 dX11_early_32 ?_
      refine r_aload_n 0 dX11_early_35 rfl rfl ?_
      refine r_getC (k := 0) (j := 0) (r := 1) sX_0 rfl fl_X11_10 dX11_early_36 ?_
      refine r_getL (k := 1) (j := 2) sX_1 rfl fl_X11_122 dX11_early_39 ?_
      refine r_aload_n 0 dX11_early_42 rfl rfl ?_
      refine r_getC (k := 0) (j := 4) (r := 36) sX_0 rfl fl_X11_39 dX11_early_43 ?_
      refine r_iload_n 1 dX11_early_46 rfl rfl ?_
      obtain ⟨x26, hx26, h⟩ := b1_some h
      refine r_laload sX_36 hx26 dX11_early_47 ?_
      refine r_lor dX11_early_48 ?_
      obtain ⟨S27, hS27, h⟩ := b1_some h
      refine r_callVv (k := 27) (rest := []) (by omega) (mX6_seeToo hS27) sX_27 rfl rfl cb_X6_seeToo ml_X11_240 im_X6_seeToo se_X6_seeToo rfl rfl (Nat.le_of_ble_eq_true rfl) dX11_early_49 ?_
      refine r_iinc (v := v24 + 1) [(0, .ref (ad_ G 0)), (1, .int (v24 + 1))] 1 [1, 0] dX11_early_52 rfl rfl (by decide) rfl ?_
      refine r_goto 23 dX11_early_55 (by decide) ?_
      obtain rfl := Option.some.inj h
      exact hB (v24 + 1, S27) rfl
  obtain ⟨u29, hu29, h⟩ := b1_some h
  refine key u29 hu29 ?_
  show Rn G shX 5 yX11_early cX11_early 2 (some .int) 58 [(0, .ref (ad_ G 0))] [] u29 post
  refine r_aload_n 0 dX11_early_58 rfl rfl ?_
  refine r_getC (k := 0) (j := 3) (r := 27) sX_0 rfl fl_X11_35 dX11_early_59 ?_
  refine r_iconst (v := 0) dX11_early_62 rfl ?_
  refine r_iconst (v := 0) dX11_early_63 rfl ?_
  refine r_aload_n 0 dX11_early_64 rfl rfl ?_
  refine r_getC (k := 0) (j := 0) (r := 1) sX_0 rfl fl_X11_10 dX11_early_65 ?_
  refine r_getI (k := 1) (j := 0) sX_1 rfl fl_X11_216 dX11_early_68 ?_
  refine r_aload_n 0 dX11_early_71 rfl rfl ?_
  refine r_getC (k := 0) (j := 0) (r := 1) sX_0 rfl fl_X11_10 dX11_early_72 ?_
  refine r_getI (k := 1) (j := 1) sX_1 rfl fl_X11_218 dX11_early_75 ?_
  obtain ⟨q30, hq30, h⟩ := b1_some h
  refine r_callVi (k := 27) (rest := []) (by omega) (mX6_weigh hq30) sX_27 rfl rfl cb_X6_weigh ml_X11_188 im_X6_weigh se_X6_weigh rfl rfl (Nat.le_of_ble_eq_true rfl) dX11_early_78 ?_
  obtain rfl := Option.some.inj h
  exact r_ireturn rfl dX11_early_81 (hp)
theorem mX11_early {G : Gx} {S : St} {o : (Int32 × St)}  (h : fX11_early S = some o) : MR_ G shX 5 yX11_early cX11_early 2 (some .int) [.ref (ad_ G 0)] S (PI_ o.1 o.2) := MR_of cb_X11_early (Nat.le_of_ble_eq_true rfl) [(0, .ref (ad_ G 0))] rfl (tX11_early  h ⟨rfl, rfl⟩)
set_option maxRecDepth 100000 in
set_option maxHeartbeats 4000000 in
theorem tX11_earlyDeed {G : Gx} {post : Option Value → St → Prop} {S : St} {o : (Int32 × St)}  (h : fX11_earlyDeed S = some o) (hp : post (some (.int o.1)) o.2) : Rn G shX 6 yX11_earlyDeed cX11_earlyDeed 1 (some .int) 0 [(0, .ref (ad_ G 0))] [] S post := by
  unfold fX11_earlyDeed at h
  refine r_aload_n 0 dX11_earlyDeed_0 rfl rfl ?_
  obtain ⟨q21, hq21, h⟩ := b1_some h
  refine r_callVi (k := 0) (rest := []) (by omega) (mX11_early hq21) sX_0 rfl rfl cb_X11_early ml_X11_224 im_X11_early se_X11_early rfl rfl (Nat.le_of_ble_eq_true rfl) dX11_earlyDeed_1 ?_
  refine r_pop dX11_earlyDeed_4 rfl ?_
  refine r_aload_n 0 dX11_earlyDeed_5 rfl rfl ?_
  refine r_getC (k := 0) (j := 3) (r := 27) sX_0 rfl fl_X11_35 dX11_earlyDeed_6 ?_
  refine r_iconst (v := 0) dX11_earlyDeed_9 rfl ?_
  refine r_iconst (v := 0) dX11_earlyDeed_10 rfl ?_
  refine r_aload_n 0 dX11_earlyDeed_11 rfl rfl ?_
  refine r_getC (k := 0) (j := 0) (r := 1) sX_0 rfl fl_X11_10 dX11_earlyDeed_12 ?_
  refine r_getI (k := 1) (j := 0) sX_1 rfl fl_X11_216 dX11_earlyDeed_15 ?_
  refine r_aload_n 0 dX11_earlyDeed_18 rfl rfl ?_
  refine r_getC (k := 0) (j := 0) (r := 1) sX_0 rfl fl_X11_10 dX11_earlyDeed_19 ?_
  refine r_getI (k := 1) (j := 1) sX_1 rfl fl_X11_218 dX11_earlyDeed_22 ?_
  obtain ⟨x22, hx22, h⟩ := b1_some h
  refine r_callVi (k := 27) (rest := []) (by omega) (mX6_decide hx22) sX_27 rfl rfl cb_X6_decide ml_X11_191 im_X6_decide se_X6_decide rfl rfl (Nat.le_of_ble_eq_true rfl) dX11_earlyDeed_25 ?_
  obtain rfl := Option.some.inj h
  exact r_ireturn rfl dX11_earlyDeed_28 (hp)
theorem mX11_earlyDeed {G : Gx} {S : St} {o : (Int32 × St)}  (h : fX11_earlyDeed S = some o) : MR_ G shX 6 yX11_earlyDeed cX11_earlyDeed 1 (some .int) [.ref (ad_ G 0)] S (PI_ o.1 o.2) := MR_of cb_X11_earlyDeed (Nat.le_of_ble_eq_true rfl) [(0, .ref (ad_ G 0))] rfl (tX11_earlyDeed  h ⟨rfl, rfl⟩)
set_option maxRecDepth 100000 in
set_option maxHeartbeats 4000000 in
theorem tX11_leastOfWorlds {G : Gx} {post : Option Value → St → Prop} {S : St} {o : (Int32 × St)}  (h : fX11_leastOfWorlds S = some o) (hp : post (some (.int o.1)) o.2) : Rn G shX 6 yX11_leastOfWorlds cX11_leastOfWorlds 3 (some .int) 0 [(0, .ref (ad_ G 0))] [] S post := by
  unfold fX11_leastOfWorlds at h
  refine r_aload_n 0 dX11_leastOfWorlds_0 rfl rfl ?_
  refine r_iconst (v := 0) dX11_leastOfWorlds_1 rfl ?_
  obtain ⟨q21, hq21, h⟩ := b1_some h
  refine r_callVi (k := 0) (rest := []) (by omega) (mX11_mostInWorld hq21) sX_0 rfl rfl cb_X11_mostInWorld ml_X11_236 im_X11_mostInWorld se_X11_mostInWorld rfl rfl (Nat.le_of_ble_eq_true rfl) dX11_leastOfWorlds_2 ?_
  refine r_istore_n (i := 1) [(0, .ref (ad_ G 0)), (1, .int q21.1)] [1, 0] dX11_leastOfWorlds_5 rfl (by decide) rfl ?_
  refine r_iconst (v := 1) dX11_leastOfWorlds_6 rfl ?_
  refine r_istore_n (i := 2) [(0, .ref (ad_ G 0)), (1, .int q21.1), (2, .int 1)] [1, 2, 0] dX11_leastOfWorlds_7 rfl (by decide) rfl ?_
  have key : ∀ ex, lp (fun w22 : Int32 × Int32 × St => bX11_leastOfWorlds_8  w22.1 w22.2.1 w22.2.2) 5000 (q21.1, 1, q21.2) = some ex → (fun u28 : Int32 × St => Rn G shX 6 yX11_leastOfWorlds cX11_leastOfWorlds 3 (some .int) 32 [(1, .int u28.1)] [] u28.2 post) ex → Rn G shX 6 yX11_leastOfWorlds cX11_leastOfWorlds 3 (some .int) 8 [(0, .ref (ad_ G 0)), (1, .int q21.1), (2, .int 1)] [] q21.2 post := by
    intro ex hl hx
    refine lp_rule (body := (fun w22 : Int32 × Int32 × St => bX11_leastOfWorlds_8  w22.1 w22.2.1 w22.2.2)) (R := (fun w22 : Int32 × Int32 × St => Rn G shX 6 yX11_leastOfWorlds cX11_leastOfWorlds 3 (some .int) 8 [(0, .ref (ad_ G 0)), (1, .int w22.1), (2, .int w22.2.1)] [] w22.2.2 post)) (X := (fun u28 : Int32 × St => Rn G shX 6 yX11_leastOfWorlds cX11_leastOfWorlds 3 (some .int) 32 [(1, .int u28.1)] [] u28.2 post)) ?_ 5000 (q21.1, 1, q21.2) ex hl hx
    intro w22 oo h hB hX
    obtain ⟨v23, v24, S25⟩ := w22
    replace h : bX11_leastOfWorlds_8  v23 v24 S25 = some oo := h
    unfold bX11_leastOfWorlds_8 at h
    show Rn G shX 6 yX11_leastOfWorlds cX11_leastOfWorlds 3 (some .int) 8 [(0, .ref (ad_ G 0)), (1, .int v23), (2, .int v24)] [] S25 post
    refine r_iload_n 2 dX11_leastOfWorlds_8 rfl rfl ?_
    refine r_aload_n 0 dX11_leastOfWorlds_9 rfl rfl ?_
    refine r_getI (k := 0) (j := 5) sX_0 rfl fl_X11_43 dX11_leastOfWorlds_10 ?_
    refine r_icmp_ge 32 dX11_leastOfWorlds_13 (by decide) (fun c27 => ?_) (fun c27 => ?_)
    · rw [if_pos c27] at h
      refine r_sub [(1, .int v23)] [1] rfl ?_
      obtain rfl := Option.some.inj h
      exact hX (v23, S25) rfl
    · rw [if_neg c27] at h
      refine r_iload_n 1 dX11_leastOfWorlds_16 rfl rfl ?_
      refine r_aload_n 0 dX11_leastOfWorlds_17 rfl rfl ?_
      refine r_iload_n 2 dX11_leastOfWorlds_18 rfl rfl ?_
      obtain ⟨q26, hq26, h⟩ := b1_some h
      refine r_callVi (k := 0) (rest := [.int v23]) (by omega) (mX11_mostInWorld hq26) sX_0 rfl rfl cb_X11_mostInWorld ml_X11_236 im_X11_mostInWorld se_X11_mostInWorld rfl rfl (Nat.le_of_ble_eq_true rfl) dX11_leastOfWorlds_19 ?_
      refine r_mmin (rest := []) (by omega) ml_X11_243 (Nat.le_of_ble_eq_true rfl) dX11_leastOfWorlds_22 ?_
      refine r_istore_n (i := 1) [(0, .ref (ad_ G 0)), (1, .int (mmin_ v23 q26.1)), (2, .int v24)] [1, 0, 2] dX11_leastOfWorlds_25 rfl (by decide) rfl ?_
      refine r_iinc (v := v24 + 1) [(0, .ref (ad_ G 0)), (1, .int (mmin_ v23 q26.1)), (2, .int (v24 + 1))] 2 [1, 2, 0] dX11_leastOfWorlds_26 rfl rfl (by decide) rfl ?_
      refine r_goto 8 dX11_leastOfWorlds_29 (by decide) ?_
      obtain rfl := Option.some.inj h
      exact hB (mmin_ v23 q26.1, v24 + 1, q26.2) rfl
  obtain ⟨u28, hu28, h⟩ := b1_some h
  refine key u28 hu28 ?_
  show Rn G shX 6 yX11_leastOfWorlds cX11_leastOfWorlds 3 (some .int) 32 [(1, .int u28.1)] [] u28.2 post
  refine r_iload_n 0 dX11_leastOfWorlds_32 rfl rfl ?_
  obtain rfl := Option.some.inj h
  exact r_ireturn rfl dX11_leastOfWorlds_33 (hp)
theorem mX11_leastOfWorlds {G : Gx} {S : St} {o : (Int32 × St)}  (h : fX11_leastOfWorlds S = some o) : MR_ G shX 6 yX11_leastOfWorlds cX11_leastOfWorlds 3 (some .int) [.ref (ad_ G 0)] S (PI_ o.1 o.2) := MR_of cb_X11_leastOfWorlds (Nat.le_of_ble_eq_true rfl) [(0, .ref (ad_ G 0))] rfl (tX11_leastOfWorlds  h ⟨rfl, rfl⟩)
set_option maxRecDepth 100000 in
set_option maxHeartbeats 4000000 in
theorem tX11_greatestOfWorlds {G : Gx} {post : Option Value → St → Prop} {S : St} {o : (Int32 × St)}  (h : fX11_greatestOfWorlds S = some o) (hp : post (some (.int o.1)) o.2) : Rn G shX 6 yX11_greatestOfWorlds cX11_greatestOfWorlds 3 (some .int) 0 [(0, .ref (ad_ G 0))] [] S post := by
  unfold fX11_greatestOfWorlds at h
  refine r_iconst (v := 0) dX11_greatestOfWorlds_0 rfl ?_
  refine r_istore_n (i := 1) [(0, .ref (ad_ G 0)), (1, .int 0)] [1, 0] dX11_greatestOfWorlds_1 rfl (by decide) rfl ?_
  refine r_iconst (v := 0) dX11_greatestOfWorlds_2 rfl ?_
  refine r_istore_n (i := 2) [(0, .ref (ad_ G 0)), (1, .int 0), (2, .int 0)] [1, 2, 0] dX11_greatestOfWorlds_3 rfl (by decide) rfl ?_
  have key : ∀ ex, lp (fun w21 : Int32 × Int32 × St => bX11_greatestOfWorlds_4  w21.1 w21.2.1 w21.2.2) 5000 (0, 0, S) = some ex → (fun u27 : Int32 × St => Rn G shX 6 yX11_greatestOfWorlds cX11_greatestOfWorlds 3 (some .int) 28 [(1, .int u27.1)] [] u27.2 post) ex → Rn G shX 6 yX11_greatestOfWorlds cX11_greatestOfWorlds 3 (some .int) 4 [(0, .ref (ad_ G 0)), (1, .int 0), (2, .int 0)] [] S post := by
    intro ex hl hx
    refine lp_rule (body := (fun w21 : Int32 × Int32 × St => bX11_greatestOfWorlds_4  w21.1 w21.2.1 w21.2.2)) (R := (fun w21 : Int32 × Int32 × St => Rn G shX 6 yX11_greatestOfWorlds cX11_greatestOfWorlds 3 (some .int) 4 [(0, .ref (ad_ G 0)), (1, .int w21.1), (2, .int w21.2.1)] [] w21.2.2 post)) (X := (fun u27 : Int32 × St => Rn G shX 6 yX11_greatestOfWorlds cX11_greatestOfWorlds 3 (some .int) 28 [(1, .int u27.1)] [] u27.2 post)) ?_ 5000 (0, 0, S) ex hl hx
    intro w21 oo h hB hX
    obtain ⟨v22, v23, S24⟩ := w21
    replace h : bX11_greatestOfWorlds_4  v22 v23 S24 = some oo := h
    unfold bX11_greatestOfWorlds_4 at h
    show Rn G shX 6 yX11_greatestOfWorlds cX11_greatestOfWorlds 3 (some .int) 4 [(0, .ref (ad_ G 0)), (1, .int v22), (2, .int v23)] [] S24 post
    refine r_iload_n 2 dX11_greatestOfWorlds_4 rfl rfl ?_
    refine r_aload_n 0 dX11_greatestOfWorlds_5 rfl rfl ?_
    refine r_getI (k := 0) (j := 5) sX_0 rfl fl_X11_43 dX11_greatestOfWorlds_6 ?_
    refine r_icmp_ge 28 dX11_greatestOfWorlds_9 (by decide) (fun c26 => ?_) (fun c26 => ?_)
    · rw [if_pos c26] at h
      refine r_sub [(1, .int v22)] [1] rfl ?_
      obtain rfl := Option.some.inj h
      exact hX (v22, S24) rfl
    · rw [if_neg c26] at h
      refine r_iload_n 1 dX11_greatestOfWorlds_12 rfl rfl ?_
      refine r_aload_n 0 dX11_greatestOfWorlds_13 rfl rfl ?_
      refine r_iload_n 2 dX11_greatestOfWorlds_14 rfl rfl ?_
      obtain ⟨q25, hq25, h⟩ := b1_some h
      refine r_callVi (k := 0) (rest := [.int v22]) (by omega) (mX11_mostInWorld hq25) sX_0 rfl rfl cb_X11_mostInWorld ml_X11_236 im_X11_mostInWorld se_X11_mostInWorld rfl rfl (Nat.le_of_ble_eq_true rfl) dX11_greatestOfWorlds_15 ?_
      refine r_mmax (rest := []) (by omega) ml_X11_248 (Nat.le_of_ble_eq_true rfl) dX11_greatestOfWorlds_18 ?_
      refine r_istore_n (i := 1) [(0, .ref (ad_ G 0)), (1, .int (mmax_ v22 q25.1)), (2, .int v23)] [1, 0, 2] dX11_greatestOfWorlds_21 rfl (by decide) rfl ?_
      refine r_iinc (v := v23 + 1) [(0, .ref (ad_ G 0)), (1, .int (mmax_ v22 q25.1)), (2, .int (v23 + 1))] 2 [1, 2, 0] dX11_greatestOfWorlds_22 rfl rfl (by decide) rfl ?_
      refine r_goto 4 dX11_greatestOfWorlds_25 (by decide) ?_
      obtain rfl := Option.some.inj h
      exact hB (mmax_ v22 q25.1, v23 + 1, q25.2) rfl
  obtain ⟨u27, hu27, h⟩ := b1_some h
  refine key u27 hu27 ?_
  show Rn G shX 6 yX11_greatestOfWorlds cX11_greatestOfWorlds 3 (some .int) 28 [(1, .int u27.1)] [] u27.2 post
  refine r_iload_n 0 dX11_greatestOfWorlds_28 rfl rfl ?_
  obtain rfl := Option.some.inj h
  exact r_ireturn rfl dX11_greatestOfWorlds_29 (hp)
theorem mX11_greatestOfWorlds {G : Gx} {S : St} {o : (Int32 × St)}  (h : fX11_greatestOfWorlds S = some o) : MR_ G shX 6 yX11_greatestOfWorlds cX11_greatestOfWorlds 3 (some .int) [.ref (ad_ G 0)] S (PI_ o.1 o.2) := MR_of cb_X11_greatestOfWorlds (Nat.le_of_ble_eq_true rfl) [(0, .ref (ad_ G 0))] rfl (tX11_greatestOfWorlds  h ⟨rfl, rfl⟩)
set_option maxRecDepth 100000 in
set_option maxHeartbeats 4000000 in
theorem tX11_choose {G : Gx} {post : Option Value → St → Prop} {S : St} {v1 : Int32} {o : (Int32 × St)}  (h : fX11_choose S v1 = some o) (hp : post (some (.int o.1)) o.2) : Rn G shX 7 yX11_choose cX11_choose 2 (some .int) 0 [(0, .ref (ad_ G 0)), (1, .int v1)] [] S post := by
  unfold fX11_choose at h
  refine r_iload_n 1 dX11_choose_0 rfl rfl ?_
  refine r_iconst (v := 0) dX11_choose_1 rfl ?_
  refine r_iconst (v := 5) dX11_choose_2 rfl ?_
  obtain ⟨x21, hx21, h⟩ := b1_some h
  refine r_callSi (rest := []) (by omega) (mX11_within hx21) cb_X11_within ml_X11_103 sm_X11_within rfl rfl (Nat.le_of_ble_eq_true rfl) dX11_choose_3 ?_
  refine r_if_ne 11 dX11_choose_6 (by decide) (fun c35 => ?_) (fun c35 => ?_)
  · rw [if_neg c35] at h
    refine r_aload_n 0 dX11_choose_11 rfl rfl ?_
    refine r_getI (k := 0) (j := 5) sX_0 rfl fl_X11_43 dX11_choose_12 ?_
    refine r_if_ne 21 dX11_choose_15 (by decide) (fun c34 => ?_) (fun c34 => ?_)
    · rw [if_neg c34] at h
      refine r_iload_n 1 dX11_choose_21 rfl rfl ?_
      by_cases c23 : v1 = 0
      · rw [if_pos c23] at h
        refine r_tableIn 56 dX11_choose_22 c23 (by decide) (by decide) rfl (by decide) ?_
        refine r_aload_n 0 dX11_choose_56 rfl rfl ?_
        obtain ⟨q22, hq22, h⟩ := b1_some h
        refine r_callVi (k := 0) (rest := []) (by omega) (mX11_late hq22) sX_0 rfl rfl cb_X11_late ml_X11_220 im_X11_late se_X11_late rfl rfl (Nat.le_of_ble_eq_true rfl) dX11_choose_57 ?_
        obtain rfl := Option.some.inj h
        exact r_ireturn rfl dX11_choose_60 (hp)
      · rw [if_neg c23] at h
        by_cases c25 : v1 = 1
        · rw [if_pos c25] at h
          refine r_tableIn 61 dX11_choose_22 c25 (by decide) (by decide) rfl (by decide) ?_
          refine r_aload_n 0 dX11_choose_61 rfl rfl ?_
          obtain ⟨q24, hq24, h⟩ := b1_some h
          refine r_callVi (k := 0) (rest := []) (by omega) (mX11_early hq24) sX_0 rfl rfl cb_X11_early ml_X11_224 im_X11_early se_X11_early rfl rfl (Nat.le_of_ble_eq_true rfl) dX11_choose_62 ?_
          obtain rfl := Option.some.inj h
          exact r_ireturn rfl dX11_choose_65 (hp)
        · rw [if_neg c25] at h
          by_cases c28 : v1 = 2
          · rw [if_pos c28] at h
            refine r_tableIn 66 dX11_choose_22 c28 (by decide) (by decide) rfl (by decide) ?_
            refine r_aload_n 0 dX11_choose_66 rfl rfl ?_
            obtain ⟨q26, hq26, h⟩ := b1_some h
            refine r_callVi (k := 0) (rest := []) (by omega) (mX11_late hq26) sX_0 rfl rfl cb_X11_late ml_X11_220 im_X11_late se_X11_late rfl rfl (Nat.le_of_ble_eq_true rfl) dX11_choose_67 ?_
            refine r_aload_n 0 dX11_choose_70 rfl rfl ?_
            obtain ⟨q27, hq27, h⟩ := b1_some h
            refine r_callVi (k := 0) (rest := [.int q26.1]) (by omega) (mX11_early hq27) sX_0 rfl rfl cb_X11_early ml_X11_224 im_X11_early se_X11_early rfl rfl (Nat.le_of_ble_eq_true rfl) dX11_choose_71 ?_
            refine r_isub dX11_choose_74 ?_
            obtain rfl := Option.some.inj h
            exact r_ireturn rfl dX11_choose_75 (hp)
          · rw [if_neg c28] at h
            by_cases c30 : v1 = 3
            · rw [if_pos c30] at h
              refine r_tableIn 76 dX11_choose_22 c30 (by decide) (by decide) rfl (by decide) ?_
              refine r_aload_n 0 dX11_choose_76 rfl rfl ?_
              obtain ⟨q29, hq29, h⟩ := b1_some h
              refine r_callVi (k := 0) (rest := []) (by omega) (mX11_earlyDeed hq29) sX_0 rfl rfl cb_X11_earlyDeed ml_X11_227 im_X11_earlyDeed se_X11_earlyDeed rfl rfl (Nat.le_of_ble_eq_true rfl) dX11_choose_77 ?_
              obtain rfl := Option.some.inj h
              exact r_ireturn rfl dX11_choose_80 (hp)
            · rw [if_neg c30] at h
              by_cases c32 : v1 = 4
              · rw [if_pos c32] at h
                refine r_tableIn 81 dX11_choose_22 c32 (by decide) (by decide) rfl (by decide) ?_
                refine r_aload_n 0 dX11_choose_81 rfl rfl ?_
                obtain ⟨q31, hq31, h⟩ := b1_some h
                refine r_callVi (k := 0) (rest := []) (by omega) (mX11_leastOfWorlds hq31) sX_0 rfl rfl cb_X11_leastOfWorlds ml_X11_230 im_X11_leastOfWorlds se_X11_leastOfWorlds rfl rfl (Nat.le_of_ble_eq_true rfl) dX11_choose_82 ?_
                obtain rfl := Option.some.inj h
                exact r_ireturn rfl dX11_choose_85 (hp)
              · rw [if_neg c32] at h
                have nc23 : (v1 : Int32).toInt ≠ 0 := ne_toInt c23
                have nc25 : (v1 : Int32).toInt ≠ 1 := ne_toInt c25
                have nc28 : (v1 : Int32).toInt ≠ 2 := ne_toInt c28
                have nc30 : (v1 : Int32).toInt ≠ 3 := ne_toInt c30
                have nc32 : (v1 : Int32).toInt ≠ 4 := ne_toInt c32
                refine r_tableOut 86 dX11_choose_22 (by omega) (by decide) ?_
                refine r_aload_n 0 dX11_choose_86 rfl rfl ?_
                obtain ⟨q33, hq33, h⟩ := b1_some h
                refine r_callVi (k := 0) (rest := []) (by omega) (mX11_greatestOfWorlds hq33) sX_0 rfl rfl cb_X11_greatestOfWorlds ml_X11_233 im_X11_greatestOfWorlds se_X11_greatestOfWorlds rfl rfl (Nat.le_of_ble_eq_true rfl) dX11_choose_87 ?_
                obtain rfl := Option.some.inj h
                exact r_ireturn rfl dX11_choose_90 (hp)
    · rw [if_pos c34] at h
      refine r_bipush (v := (-2)) dX11_choose_18 rfl ?_
      obtain rfl := Option.some.inj h
      exact r_ireturn rfl dX11_choose_20 (hp)
  · rw [if_pos c35] at h
    refine r_iconst (v := (-1)) dX11_choose_9 rfl ?_
    obtain rfl := Option.some.inj h
    exact r_ireturn rfl dX11_choose_10 (hp)
theorem mX11_choose {G : Gx} {S : St} {v1 : Int32} {o : (Int32 × St)}  (h : fX11_choose S v1 = some o) : MR_ G shX 7 yX11_choose cX11_choose 2 (some .int) [.ref (ad_ G 0), .int v1] S (PI_ o.1 o.2) := MR_of cb_X11_choose (Nat.le_of_ble_eq_true rfl) [(0, .ref (ad_ G 0)), (1, .int v1)] rfl (tX11_choose  h ⟨rfl, rfl⟩)
set_option maxRecDepth 100000 in
set_option maxHeartbeats 4000000 in
theorem tX9_add {G : Gx} {post : Option Value → St → Prop} {S : St} {v1 : Int32} {v2 : Int32} {v3 : Int32} {v4 : Int32} {o : (Int32 × St)}  (h : fX9_add S v1 v2 v3 v4 = some o) (hp : post (some (.int o.1)) o.2) : Rn G shX 0 yX9_add cX9_add 5 (some .int) 0 [(0, .ref (ad_ G 37)), (1, .int v1), (2, .int v2), (3, .int v3), (4, .int v4)] [] S post := by
  unfold fX9_add at h
  refine r_aload_n 0 dX9_add_0 rfl rfl ?_
  refine r_getC (k := 37) (j := 0) (r := 38) sX_37 rfl fl_X9_9 dX9_add_1 ?_
  refine r_aload_n 0 dX9_add_4 rfl rfl ?_
  refine r_getI (k := 37) (j := 4) sX_37 rfl fl_X9_24 dX9_add_5 ?_
  refine r_iload_n 1 dX9_add_8 rfl rfl ?_
  obtain ⟨S21, hS21, h⟩ := b1_some h
  refine r_iastore sX_38 hS21 dX9_add_9 ?_
  refine r_aload_n 0 dX9_add_10 rfl rfl ?_
  refine r_getC (k := 37) (j := 1) (r := 39) sX_37 rfl fl_X9_15 dX9_add_11 ?_
  refine r_aload_n 0 dX9_add_14 rfl rfl ?_
  refine r_getI (k := 37) (j := 4) sX_37 rfl fl_X9_24 dX9_add_15 ?_
  refine r_iload_n 2 dX9_add_18 rfl rfl ?_
  obtain ⟨S22, hS22, h⟩ := b1_some h
  refine r_iastore sX_39 hS22 dX9_add_19 ?_
  refine r_aload_n 0 dX9_add_20 rfl rfl ?_
  refine r_getC (k := 37) (j := 2) (r := 40) sX_37 rfl fl_X9_18 dX9_add_21 ?_
  refine r_aload_n 0 dX9_add_24 rfl rfl ?_
  refine r_getI (k := 37) (j := 4) sX_37 rfl fl_X9_24 dX9_add_25 ?_
  refine r_iload_n 3 dX9_add_28 rfl rfl ?_
  obtain ⟨S23, hS23, h⟩ := b1_some h
  refine r_iastore sX_40 hS23 dX9_add_29 ?_
  refine r_aload_n 0 dX9_add_30 rfl rfl ?_
  refine r_getC (k := 37) (j := 3) (r := 41) sX_37 rfl fl_X9_21 dX9_add_31 ?_
  refine r_aload_n 0 dX9_add_34 rfl rfl ?_
  refine r_getI (k := 37) (j := 4) sX_37 rfl fl_X9_24 dX9_add_35 ?_
  refine r_iload 4 dX9_add_38 rfl ?_
  obtain ⟨S24, hS24, h⟩ := b1_some h
  refine r_iastore sX_41 hS24 dX9_add_40 ?_
  refine r_aload_n 0 dX9_add_41 rfl rfl ?_
  refine r_dup dX9_add_42 rfl ?_
  refine r_getI (k := 37) (j := 4) sX_37 rfl fl_X9_24 dX9_add_43 ?_
  refine r_iconst (v := 1) dX9_add_46 rfl ?_
  refine r_iadd dX9_add_47 ?_
  obtain ⟨S25, hS25, h⟩ := b1_some h
  refine r_setI (k := 37) (j := 4) sX_37 rfl pf_X9_24 hS25 dX9_add_48 ?_
  refine r_aload_n 0 dX9_add_51 rfl rfl ?_
  refine r_getI (k := 37) (j := 4) sX_37 rfl fl_X9_24 dX9_add_52 ?_
  refine r_iconst (v := 1) dX9_add_55 rfl ?_
  refine r_isub dX9_add_56 ?_
  obtain rfl := Option.some.inj h
  exact r_ireturn rfl dX9_add_57 (hp)
theorem mX9_add {G : Gx} {S : St} {v1 : Int32} {v2 : Int32} {v3 : Int32} {v4 : Int32} {o : (Int32 × St)}  (h : fX9_add S v1 v2 v3 v4 = some o) : MR_ G shX 0 yX9_add cX9_add 5 (some .int) [.ref (ad_ G 37), .int v1, .int v2, .int v3, .int v4] S (PI_ o.1 o.2) := MR_of cb_X9_add (Nat.le_of_ble_eq_true rfl) [(0, .ref (ad_ G 37)), (1, .int v1), (2, .int v2), (3, .int v3), (4, .int v4)] rfl (tX9_add  h ⟨rfl, rfl⟩)
set_option maxRecDepth 100000 in
set_option maxHeartbeats 4000000 in
theorem tX11_store {G : Gx} {post : Option Value → St → Prop} {S : St} {v1 : Int32} {v2 : Int32} {v3 : Int32} {v4 : Int32} {o : (Int32 × St)}  (h : fX11_store S v1 v2 v3 v4 = some o) (hp : post (some (.int o.1)) o.2) : Rn G shX 1 yX11_store cX11_store 5 (some .int) 0 [(0, .ref (ad_ G 0)), (1, .int v1), (2, .int v2), (3, .int v3), (4, .int v4)] [] S post := by
  unfold fX11_store at h
  refine r_iload_n 1 dX11_store_0 rfl rfl ?_
  refine r_iconst (v := 1) dX11_store_1 rfl ?_
  refine r_bipush (v := 8) dX11_store_2 rfl ?_
  obtain ⟨x21, hx21, h⟩ := b1_some h
  refine r_callSi (rest := []) (by omega) (mX11_within hx21) cb_X11_within ml_X11_103 sm_X11_within rfl rfl (Nat.le_of_ble_eq_true rfl) dX11_store_4 ?_
  refine r_if_eq 41 dX11_store_7 (by decide) (fun c30 => ?_) (fun c30 => ?_)
  · rw [if_pos c30] at h
    refine r_iconst (v := (-1)) dX11_store_41 rfl ?_
    obtain rfl := Option.some.inj h
    exact r_ireturn rfl dX11_store_42 (hp)
  · rw [if_neg c30] at h
    refine r_iload_n 2 dX11_store_10 rfl rfl ?_
    refine r_iconst (v := 1) dX11_store_11 rfl ?_
    refine r_bipush (v := 8) dX11_store_12 rfl ?_
    obtain ⟨x22, hx22, h⟩ := b1_some h
    refine r_callSi (rest := []) (by omega) (mX11_within hx22) cb_X11_within ml_X11_103 sm_X11_within rfl rfl (Nat.le_of_ble_eq_true rfl) dX11_store_14 ?_
    refine r_if_eq 41 dX11_store_17 (by decide) (fun c29 => ?_) (fun c29 => ?_)
    · rw [if_pos c29] at h
      refine r_iconst (v := (-1)) dX11_store_41 rfl ?_
      obtain rfl := Option.some.inj h
      exact r_ireturn rfl dX11_store_42 (hp)
    · rw [if_neg c29] at h
      refine r_iload_n 3 dX11_store_20 rfl rfl ?_
      refine r_iconst (v := 0) dX11_store_21 rfl ?_
      refine r_bipush (v := 9) dX11_store_22 rfl ?_
      obtain ⟨x23, hx23, h⟩ := b1_some h
      refine r_callSi (rest := []) (by omega) (mX11_within hx23) cb_X11_within ml_X11_103 sm_X11_within rfl rfl (Nat.le_of_ble_eq_true rfl) dX11_store_24 ?_
      refine r_if_eq 41 dX11_store_27 (by decide) (fun c28 => ?_) (fun c28 => ?_)
      · rw [if_pos c28] at h
        refine r_iconst (v := (-1)) dX11_store_41 rfl ?_
        obtain rfl := Option.some.inj h
        exact r_ireturn rfl dX11_store_42 (hp)
      · rw [if_neg c28] at h
        refine r_iload 4 dX11_store_30 rfl ?_
        refine r_iconst (v := 0) dX11_store_32 rfl ?_
        refine r_bipush (v := 99) dX11_store_33 rfl ?_
        obtain ⟨x24, hx24, h⟩ := b1_some h
        refine r_callSi (rest := []) (by omega) (mX11_within hx24) cb_X11_within ml_X11_103 sm_X11_within rfl rfl (Nat.le_of_ble_eq_true rfl) dX11_store_35 ?_
        refine r_if_ne 43 dX11_store_38 (by decide) (fun c27 => ?_) (fun c27 => ?_)
        · rw [if_neg c27] at h
          refine r_aload_n 0 dX11_store_43 rfl rfl ?_
          refine r_getC (k := 0) (j := 6) (r := 37) sX_0 rfl fl_X11_50 dX11_store_44 ?_
          refine r_getI (k := 37) (j := 4) sX_37 rfl fl_X11_251 dX11_store_47 ?_
          refine r_bipush (v := 12) dX11_store_50 rfl ?_
          refine r_icmp_lt 58 dX11_store_52 (by decide) (fun c26 => ?_) (fun c26 => ?_)
          · rw [if_pos c26] at h
            refine r_aload_n 0 dX11_store_58 rfl rfl ?_
            refine r_getC (k := 0) (j := 6) (r := 37) sX_0 rfl fl_X11_50 dX11_store_59 ?_
            refine r_iload_n 1 dX11_store_62 rfl rfl ?_
            refine r_iload_n 2 dX11_store_63 rfl rfl ?_
            refine r_iload_n 3 dX11_store_64 rfl rfl ?_
            refine r_iload 4 dX11_store_65 rfl ?_
            obtain ⟨q25, hq25, h⟩ := b1_some h
            refine r_callVi (k := 37) (rest := []) (by omega) (mX9_add hq25) sX_37 rfl rfl cb_X9_add ml_X11_252 im_X9_add se_X9_add rfl rfl (Nat.le_of_ble_eq_true rfl) dX11_store_67 ?_
            obtain rfl := Option.some.inj h
            exact r_ireturn rfl dX11_store_70 (hp)
          · rw [if_neg c26] at h
            refine r_bipush (v := (-3)) dX11_store_55 rfl ?_
            obtain rfl := Option.some.inj h
            exact r_ireturn rfl dX11_store_57 (hp)
        · rw [if_pos c27] at h
          refine r_iconst (v := (-1)) dX11_store_41 rfl ?_
          obtain rfl := Option.some.inj h
          exact r_ireturn rfl dX11_store_42 (hp)
theorem mX11_store {G : Gx} {S : St} {v1 : Int32} {v2 : Int32} {v3 : Int32} {v4 : Int32} {o : (Int32 × St)}  (h : fX11_store S v1 v2 v3 v4 = some o) : MR_ G shX 1 yX11_store cX11_store 5 (some .int) [.ref (ad_ G 0), .int v1, .int v2, .int v3, .int v4] S (PI_ o.1 o.2) := MR_of cb_X11_store (Nat.le_of_ble_eq_true rfl) [(0, .ref (ad_ G 0)), (1, .int v1), (2, .int v2), (3, .int v3), (4, .int v4)] rfl (tX11_store  h ⟨rfl, rfl⟩)
set_option maxRecDepth 100000 in
set_option maxHeartbeats 4000000 in
theorem tX4_doesFor {G : Gx} {post : Option Value → St → Prop} {S : St} {v1 : Int32} {v2 : Int32} {o : Int32}  (h : fX4_doesFor S v1 v2 = some o) (hp : post (some (.int o)) S) : Rn G shX 1 yX4_doesFor cX4_doesFor 4 (some .boolean) 0 [(0, .ref (ad_ G 42)), (1, .int v1), (2, .int v2)] [] S post := by
  unfold fX4_doesFor at h
  refine r_aload_n 0 dX4_doesFor_0 rfl rfl ?_
  refine r_getC (k := 42) (j := 2) (r := 43) sX_42 rfl fl_X4_9 dX4_doesFor_1 ?_
  refine r_iload_n 2 dX4_doesFor_4 rfl rfl ?_
  obtain ⟨x21, hx21, h⟩ := b1_some h
  refine r_iaload sX_43 hx21 dX4_doesFor_5 ?_
  refine r_istore_n (i := 3) [(0, .ref (ad_ G 42)), (1, .int v1), (2, .int v2), (3, .int x21)] [1, 2, 3, 0] dX4_doesFor_6 rfl (by decide) rfl ?_
  refine r_aload_n 0 dX4_doesFor_7 rfl rfl ?_
  refine r_getC (k := 42) (j := 1) (r := 21) sX_42 rfl fl_X4_44 dX4_doesFor_8 ?_
  refine r_iload_n 3 dX4_doesFor_11 rfl rfl ?_
  refine r_aload_n 0 dX4_doesFor_12 rfl rfl ?_
  refine r_getC (k := 42) (j := 0) (r := 37) sX_42 rfl fl_X4_40 dX4_doesFor_13 ?_
  refine r_getC (k := 37) (j := 0) (r := 38) sX_37 rfl fl_X4_48 dX4_doesFor_16 ?_
  refine r_iload_n 1 dX4_doesFor_19 rfl rfl ?_
  obtain ⟨x22, hx22, h⟩ := b1_some h
  refine r_iaload sX_38 hx22 dX4_doesFor_20 ?_
  refine r_aload_n 0 dX4_doesFor_21 rfl rfl ?_
  refine r_getC (k := 42) (j := 0) (r := 37) sX_42 rfl fl_X4_40 dX4_doesFor_22 ?_
  refine r_getC (k := 37) (j := 1) (r := 39) sX_37 rfl fl_X4_53 dX4_doesFor_25 ?_
  refine r_iload_n 1 dX4_doesFor_28 rfl rfl ?_
  obtain ⟨x23, hx23, h⟩ := b1_some h
  refine r_iaload sX_39 hx23 dX4_doesFor_29 ?_
  obtain ⟨x24, hx24, h⟩ := b1_some h
  refine r_callVi (k := 21) (rest := []) (by omega) (mX7_isOf hx24) sX_21 rfl rfl cb_X7_isOf ml_X4_56 im_X7_isOf se_X7_isOf rfl rfl (Nat.le_of_ble_eq_true rfl) dX4_doesFor_30 ?_
  refine r_if_eq 79 dX4_doesFor_33 (by decide) (fun c31 => ?_) (fun c31 => ?_)
  · rw [if_pos c31] at h
    refine r_iconst (v := 0) dX4_doesFor_79 rfl ?_
    obtain rfl := Option.some.inj h
    exact r_zreturn rfl (by decide) dX4_doesFor_80 (hp)
  · rw [if_neg c31] at h
    refine r_aload_n 0 dX4_doesFor_36 rfl rfl ?_
    refine r_getC (k := 42) (j := 0) (r := 37) sX_42 rfl fl_X4_40 dX4_doesFor_37 ?_
    refine r_getC (k := 37) (j := 2) (r := 40) sX_37 rfl fl_X4_62 dX4_doesFor_40 ?_
    refine r_iload_n 1 dX4_doesFor_43 rfl rfl ?_
    obtain ⟨x25, hx25, h⟩ := b1_some h
    refine r_iaload sX_40 hx25 dX4_doesFor_44 ?_
    refine r_aload_n 0 dX4_doesFor_45 rfl rfl ?_
    refine r_getC (k := 42) (j := 1) (r := 21) sX_42 rfl fl_X4_44 dX4_doesFor_46 ?_
    refine r_getC (k := 21) (j := 3) (r := 25) sX_21 rfl fl_X4_65 dX4_doesFor_49 ?_
    refine r_iload_n 3 dX4_doesFor_52 rfl rfl ?_
    obtain ⟨x26, hx26, h⟩ := b1_some h
    refine r_iaload sX_25 hx26 dX4_doesFor_53 ?_
    refine r_icmp_lt 79 dX4_doesFor_54 (by decide) (fun c30 => ?_) (fun c30 => ?_)
    · rw [if_pos c30] at h
      refine r_iconst (v := 0) dX4_doesFor_79 rfl ?_
      obtain rfl := Option.some.inj h
      exact r_zreturn rfl (by decide) dX4_doesFor_80 (hp)
    · rw [if_neg c30] at h
      refine r_aload_n 0 dX4_doesFor_57 rfl rfl ?_
      refine r_getC (k := 42) (j := 0) (r := 37) sX_42 rfl fl_X4_40 dX4_doesFor_58 ?_
      refine r_getC (k := 37) (j := 3) (r := 41) sX_37 rfl fl_X4_68 dX4_doesFor_61 ?_
      refine r_iload_n 1 dX4_doesFor_64 rfl rfl ?_
      obtain ⟨x27, hx27, h⟩ := b1_some h
      refine r_iaload sX_41 hx27 dX4_doesFor_65 ?_
      refine r_aload_n 0 dX4_doesFor_66 rfl rfl ?_
      refine r_getC (k := 42) (j := 3) (r := 44) sX_42 rfl fl_X4_15 dX4_doesFor_67 ?_
      refine r_iload_n 2 dX4_doesFor_70 rfl rfl ?_
      obtain ⟨x28, hx28, h⟩ := b1_some h
      refine r_iaload sX_44 hx28 dX4_doesFor_71 ?_
      refine r_icmp_lt 79 dX4_doesFor_72 (by decide) (fun c29 => ?_) (fun c29 => ?_)
      · rw [if_pos c29] at h
        refine r_iconst (v := 0) dX4_doesFor_79 rfl ?_
        obtain rfl := Option.some.inj h
        exact r_zreturn rfl (by decide) dX4_doesFor_80 (hp)
      · rw [if_neg c29] at h
        refine r_iconst (v := 1) dX4_doesFor_75 rfl ?_
        refine r_goto 80 dX4_doesFor_76 (by decide) ?_
        obtain rfl := Option.some.inj h
        exact r_zreturn rfl (by decide) dX4_doesFor_80 (hp)
theorem mX4_doesFor {G : Gx} {S : St} {v1 : Int32} {v2 : Int32} {o : Int32}  (h : fX4_doesFor S v1 v2 = some o) : MR_ G shX 1 yX4_doesFor cX4_doesFor 4 (some .boolean) [.ref (ad_ G 42), .int v1, .int v2] S (PI_ o S) := MR_of cb_X4_doesFor (Nat.le_of_ble_eq_true rfl) [(0, .ref (ad_ G 42)), (1, .int v1), (2, .int v2)] rfl (tX4_doesFor  h ⟨rfl, rfl⟩)
set_option maxRecDepth 100000 in
set_option maxHeartbeats 4000000 in
theorem tX4_servedBy {G : Gx} {post : Option Value → St → Prop} {S : St} {v1 : Int32} {o : Int32}  (h : fX4_servedBy S v1 = some o) (hp : post (some (.int o)) S) : Rn G shX 2 yX4_servedBy cX4_servedBy 4 (some .int) 0 [(0, .ref (ad_ G 42)), (1, .int v1)] [] S post := by
  unfold fX4_servedBy at h
  refine r_iconst (v := 0) dX4_servedBy_0 rfl ?_
  refine r_istore_n (i := 2) [(0, .ref (ad_ G 42)), (1, .int v1), (2, .int 0)] [1, 2, 0] dX4_servedBy_1 rfl (by decide) rfl ?_
  refine r_iconst (v := 0) dX4_servedBy_2 rfl ?_
  refine r_istore_n (i := 3) [(0, .ref (ad_ G 42)), (1, .int v1), (2, .int 0), (3, .int 0)] [1, 2, 3, 0] dX4_servedBy_3 rfl (by decide) rfl ?_
  have key : ∀ ex, lp (fun w21 : Int32 × Int32 => bX4_servedBy_4 S v1 w21.1 w21.2) 5000 (0, 0) = some ex → (fun u27 : Int32 => Rn G shX 2 yX4_servedBy cX4_servedBy 4 (some .int) 30 [(2, .int u27)] [] S post) ex → Rn G shX 2 yX4_servedBy cX4_servedBy 4 (some .int) 4 [(0, .ref (ad_ G 42)), (1, .int v1), (2, .int 0), (3, .int 0)] [] S post := by
    intro ex hl hx
    refine lp_rule (body := (fun w21 : Int32 × Int32 => bX4_servedBy_4 S v1 w21.1 w21.2)) (R := (fun w21 : Int32 × Int32 => Rn G shX 2 yX4_servedBy cX4_servedBy 4 (some .int) 4 [(0, .ref (ad_ G 42)), (1, .int v1), (2, .int w21.1), (3, .int w21.2)] [] S post)) (X := (fun u27 : Int32 => Rn G shX 2 yX4_servedBy cX4_servedBy 4 (some .int) 30 [(2, .int u27)] [] S post)) ?_ 5000 (0, 0) ex hl hx
    intro w21 oo h hB hX
    obtain ⟨v22, v23⟩ := w21
    replace h : bX4_servedBy_4 S v1 v22 v23 = some oo := h
    unfold bX4_servedBy_4 at h
    show Rn G shX 2 yX4_servedBy cX4_servedBy 4 (some .int) 4 [(0, .ref (ad_ G 42)), (1, .int v1), (2, .int v22), (3, .int v23)] [] S post
    refine r_iload_n 3 dX4_servedBy_4 rfl rfl ?_
    refine r_aload_n 0 dX4_servedBy_5 rfl rfl ?_
    refine r_getI (k := 42) (j := 5) sX_42 rfl fl_X4_21 dX4_servedBy_6 ?_
    refine r_icmp_ge 30 dX4_servedBy_9 (by decide) (fun c26 => ?_) (fun c26 => ?_)
    · rw [if_pos c26] at h
      refine r_sub [(2, .int v22)] [2] rfl ?_
      obtain rfl := Option.some.inj h
      exact hX v22 rfl
    · rw [if_neg c26] at h
      refine r_aload_n 0 dX4_servedBy_12 rfl rfl ?_
      refine r_iload_n 1 dX4_servedBy_13 rfl rfl ?_
      refine r_iload_n 3 dX4_servedBy_14 rfl rfl ?_
      obtain ⟨x24, hx24, h⟩ := b1_some h
      refine r_callVi (k := 42) (rest := []) (by omega) (mX4_doesFor hx24) sX_42 rfl rfl cb_X4_doesFor ml_X4_71 im_X4_doesFor se_X4_doesFor rfl rfl (Nat.le_of_ble_eq_true rfl) dX4_servedBy_15 ?_
      refine r_if_eq 24 dX4_servedBy_18 (by decide) (fun c25 => ?_) (fun c25 => ?_)
      · rw [if_pos c25] at h
        refine r_iinc (v := v23 + 1) [(0, .ref (ad_ G 42)), (1, .int v1), (2, .int v22), (3, .int (v23 + 1))] 3 [1, 2, 3, 0] dX4_servedBy_24 rfl rfl (by decide) rfl ?_
        refine r_goto 4 dX4_servedBy_27 (by decide) ?_
        obtain rfl := Option.some.inj h
        exact hB (v22, v23 + 1) rfl
      · rw [if_neg c25] at h
        refine r_iinc (v := v22 + 1) [(0, .ref (ad_ G 42)), (1, .int v1), (2, .int (v22 + 1)), (3, .int v23)] 2 [1, 2, 0, 3] dX4_servedBy_21 rfl rfl (by decide) rfl ?_
        refine r_iinc (v := v23 + 1) [(0, .ref (ad_ G 42)), (1, .int v1), (2, .int (v22 + 1)), (3, .int (v23 + 1))] 3 [1, 2, 3, 0] dX4_servedBy_24 rfl rfl (by decide) rfl ?_
        refine r_goto 4 dX4_servedBy_27 (by decide) ?_
        obtain rfl := Option.some.inj h
        exact hB (v22 + 1, v23 + 1) rfl
  obtain ⟨u27, hu27, h⟩ := b1_some h
  refine key u27 hu27 ?_
  show Rn G shX 2 yX4_servedBy cX4_servedBy 4 (some .int) 30 [(2, .int u27)] [] S post
  refine r_iload_n 0 dX4_servedBy_30 rfl rfl ?_
  obtain rfl := Option.some.inj h
  exact r_ireturn rfl dX4_servedBy_31 (hp)
theorem mX4_servedBy {G : Gx} {S : St} {v1 : Int32} {o : Int32}  (h : fX4_servedBy S v1 = some o) : MR_ G shX 2 yX4_servedBy cX4_servedBy 4 (some .int) [.ref (ad_ G 42), .int v1] S (PI_ o S) := MR_of cb_X4_servedBy (Nat.le_of_ble_eq_true rfl) [(0, .ref (ad_ G 42)), (1, .int v1)] rfl (tX4_servedBy  h ⟨rfl, rfl⟩)
set_option maxRecDepth 100000 in
set_option maxHeartbeats 4000000 in
theorem tX11_stored {G : Gx} {post : Option Value → St → Prop} {S : St} {v1 : Int32} {v2 : Int32} {o : Int32}  (h : fX11_stored S v1 v2 = some o) (hp : post (some (.int o)) S) : Rn G shX 3 yX11_stored cX11_stored 3 (some .int) 0 [(0, .ref (ad_ G 0)), (1, .int v1), (2, .int v2)] [] S post := by
  unfold fX11_stored at h
  refine r_iload_n 1 dX11_stored_0 rfl rfl ?_
  refine r_iconst (v := 0) dX11_stored_1 rfl ?_
  refine r_aload_n 0 dX11_stored_2 rfl rfl ?_
  refine r_getC (k := 0) (j := 6) (r := 37) sX_0 rfl fl_X11_50 dX11_stored_3 ?_
  refine r_getI (k := 37) (j := 4) sX_37 rfl fl_X11_251 dX11_stored_6 ?_
  refine r_iconst (v := 1) dX11_stored_9 rfl ?_
  refine r_isub dX11_stored_10 ?_
  obtain ⟨x21, hx21, h⟩ := b1_some h
  refine r_callSi (rest := []) (by omega) (mX11_within hx21) cb_X11_within ml_X11_103 sm_X11_within rfl rfl (Nat.le_of_ble_eq_true rfl) dX11_stored_11 ?_
  refine r_if_ne 19 dX11_stored_14 (by decide) (fun c32 => ?_) (fun c32 => ?_)
  · rw [if_neg c32] at h
    refine r_iload_n 2 dX11_stored_19 rfl rfl ?_
    by_cases c23 : v2 = 0
    · rw [if_pos c23] at h
      refine r_tableIn 56 dX11_stored_20 c23 (by decide) (by decide) rfl (by decide) ?_
      refine r_aload_n 0 dX11_stored_56 rfl rfl ?_
      refine r_getC (k := 0) (j := 6) (r := 37) sX_0 rfl fl_X11_50 dX11_stored_57 ?_
      refine r_getC (k := 37) (j := 0) (r := 38) sX_37 rfl fl_X11_254 dX11_stored_60 ?_
      refine r_iload_n 1 dX11_stored_63 rfl rfl ?_
      obtain ⟨x22, hx22, h⟩ := b1_some h
      refine r_iaload sX_38 hx22 dX11_stored_64 ?_
      obtain rfl := Option.some.inj h
      exact r_ireturn rfl dX11_stored_65 (hp)
    · rw [if_neg c23] at h
      by_cases c25 : v2 = 1
      · rw [if_pos c25] at h
        refine r_tableIn 66 dX11_stored_20 c25 (by decide) (by decide) rfl (by decide) ?_
        refine r_aload_n 0 dX11_stored_66 rfl rfl ?_
        refine r_getC (k := 0) (j := 6) (r := 37) sX_0 rfl fl_X11_50 dX11_stored_67 ?_
        refine r_getC (k := 37) (j := 1) (r := 39) sX_37 rfl fl_X11_255 dX11_stored_70 ?_
        refine r_iload_n 1 dX11_stored_73 rfl rfl ?_
        obtain ⟨x24, hx24, h⟩ := b1_some h
        refine r_iaload sX_39 hx24 dX11_stored_74 ?_
        obtain rfl := Option.some.inj h
        exact r_ireturn rfl dX11_stored_75 (hp)
      · rw [if_neg c25] at h
        by_cases c27 : v2 = 2
        · rw [if_pos c27] at h
          refine r_tableIn 76 dX11_stored_20 c27 (by decide) (by decide) rfl (by decide) ?_
          refine r_aload_n 0 dX11_stored_76 rfl rfl ?_
          refine r_getC (k := 0) (j := 6) (r := 37) sX_0 rfl fl_X11_50 dX11_stored_77 ?_
          refine r_getC (k := 37) (j := 2) (r := 40) sX_37 rfl fl_X11_256 dX11_stored_80 ?_
          refine r_iload_n 1 dX11_stored_83 rfl rfl ?_
          obtain ⟨x26, hx26, h⟩ := b1_some h
          refine r_iaload sX_40 hx26 dX11_stored_84 ?_
          obtain rfl := Option.some.inj h
          exact r_ireturn rfl dX11_stored_85 (hp)
        · rw [if_neg c27] at h
          by_cases c29 : v2 = 3
          · rw [if_pos c29] at h
            refine r_tableIn 86 dX11_stored_20 c29 (by decide) (by decide) rfl (by decide) ?_
            refine r_aload_n 0 dX11_stored_86 rfl rfl ?_
            refine r_getC (k := 0) (j := 6) (r := 37) sX_0 rfl fl_X11_50 dX11_stored_87 ?_
            refine r_getC (k := 37) (j := 3) (r := 41) sX_37 rfl fl_X11_257 dX11_stored_90 ?_
            refine r_iload_n 1 dX11_stored_93 rfl rfl ?_
            obtain ⟨x28, hx28, h⟩ := b1_some h
            refine r_iaload sX_41 hx28 dX11_stored_94 ?_
            obtain rfl := Option.some.inj h
            exact r_ireturn rfl dX11_stored_95 (hp)
          · rw [if_neg c29] at h
            by_cases c31 : v2 = 4
            · rw [if_pos c31] at h
              refine r_tableIn 96 dX11_stored_20 c31 (by decide) (by decide) rfl (by decide) ?_
              refine r_aload_n 0 dX11_stored_96 rfl rfl ?_
              refine r_getC (k := 0) (j := 7) (r := 42) sX_0 rfl fl_X11_59 dX11_stored_97 ?_
              refine r_iload_n 1 dX11_stored_100 rfl rfl ?_
              obtain ⟨x30, hx30, h⟩ := b1_some h
              refine r_callVi (k := 42) (rest := []) (by omega) (mX4_servedBy hx30) sX_42 rfl rfl cb_X4_servedBy ml_X11_260 im_X4_servedBy se_X4_servedBy rfl rfl (Nat.le_of_ble_eq_true rfl) dX11_stored_101 ?_
              obtain rfl := Option.some.inj h
              exact r_ireturn rfl dX11_stored_104 (hp)
            · rw [if_neg c31] at h
              have nc23 : (v2 : Int32).toInt ≠ 0 := ne_toInt c23
              have nc25 : (v2 : Int32).toInt ≠ 1 := ne_toInt c25
              have nc27 : (v2 : Int32).toInt ≠ 2 := ne_toInt c27
              have nc29 : (v2 : Int32).toInt ≠ 3 := ne_toInt c29
              have nc31 : (v2 : Int32).toInt ≠ 4 := ne_toInt c31
              refine r_tableOut 105 dX11_stored_20 (by omega) (by decide) ?_
              refine r_iconst (v := (-1)) dX11_stored_105 rfl ?_
              obtain rfl := Option.some.inj h
              exact r_ireturn rfl dX11_stored_106 (hp)
  · rw [if_pos c32] at h
    refine r_iconst (v := (-1)) dX11_stored_17 rfl ?_
    obtain rfl := Option.some.inj h
    exact r_ireturn rfl dX11_stored_18 (hp)
theorem mX11_stored {G : Gx} {S : St} {v1 : Int32} {v2 : Int32} {o : Int32}  (h : fX11_stored S v1 v2 = some o) : MR_ G shX 3 yX11_stored cX11_stored 3 (some .int) [.ref (ad_ G 0), .int v1, .int v2] S (PI_ o S) := MR_of cb_X11_stored (Nat.le_of_ble_eq_true rfl) [(0, .ref (ad_ G 0)), (1, .int v1), (2, .int v2)] rfl (tX11_stored  h ⟨rfl, rfl⟩)
set_option maxRecDepth 100000 in
set_option maxHeartbeats 4000000 in
theorem tX11_age {G : Gx} {post : Option Value → St → Prop} {S : St} {o : (Int32 × St)}  (h : fX11_age S = some o) (hp : post (some (.int o.1)) o.2) : Rn G shX 1 yX11_age cX11_age 2 (some .int) 0 [(0, .ref (ad_ G 0))] [] S post := by
  unfold fX11_age at h
  refine r_iconst (v := 0) dX11_age_0 rfl ?_
  refine r_istore_n (i := 1) [(0, .ref (ad_ G 0)), (1, .int 0)] [1, 0] dX11_age_1 rfl (by decide) rfl ?_
  have key : ∀ ex, lp (fun w21 : Int32 × St => bX11_age_2  w21.1 w21.2) 5000 (0, S) = some ex → (fun u27 : St => Rn G shX 1 yX11_age cX11_age 2 (some .int) 44 [(0, .ref (ad_ G 0))] [] u27 post) ex → Rn G shX 1 yX11_age cX11_age 2 (some .int) 2 [(0, .ref (ad_ G 0)), (1, .int 0)] [] S post := by
    intro ex hl hx
    refine lp_rule (body := (fun w21 : Int32 × St => bX11_age_2  w21.1 w21.2)) (R := (fun w21 : Int32 × St => Rn G shX 1 yX11_age cX11_age 2 (some .int) 2 [(0, .ref (ad_ G 0)), (1, .int w21.1)] [] w21.2 post)) (X := (fun u27 : St => Rn G shX 1 yX11_age cX11_age 2 (some .int) 44 [(0, .ref (ad_ G 0))] [] u27 post)) ?_ 5000 (0, S) ex hl hx
    intro w21 oo h hB hX
    obtain ⟨v22, S23⟩ := w21
    replace h : bX11_age_2  v22 S23 = some oo := h
    unfold bX11_age_2 at h
    show Rn G shX 1 yX11_age cX11_age 2 (some .int) 2 [(0, .ref (ad_ G 0)), (1, .int v22)] [] S23 post
    refine r_iload_n 1 dX11_age_2 rfl rfl ?_
    refine r_aload_n 0 dX11_age_3 rfl rfl ?_
    refine r_getC (k := 0) (j := 6) (r := 37) sX_0 rfl fl_X11_50 dX11_age_4 ?_
    refine r_getI (k := 37) (j := 4) sX_37 rfl fl_X11_251 dX11_age_7 ?_
    refine r_icmp_ge 44 dX11_age_10 (by decide) (fun c26 => ?_) (fun c26 => ?_)
    · rw [if_pos c26] at h
      refine r_sub [(0, .ref (ad_ G 0))] [0] rfl ?_
      obtain rfl := Option.some.inj h
      exact hX S23 rfl
    · rw [if_neg c26] at h
      refine r_aload_n 0 dX11_age_13 rfl rfl ?_
      refine r_getC (k := 0) (j := 6) (r := 37) sX_0 rfl fl_X11_50 dX11_age_14 ?_
      refine r_getC (k := 37) (j := 3) (r := 41) sX_37 rfl fl_X11_257 dX11_age_17 ?_
      refine r_iload_n 1 dX11_age_20 rfl rfl ?_
      refine r_bipush (v := 99) dX11_age_21 rfl ?_
      refine r_aload_n 0 dX11_age_23 rfl rfl ?_
      refine r_getC (k := 0) (j := 6) (r := 37) sX_0 rfl fl_X11_50 dX11_age_24 ?_
      refine r_getC (k := 37) (j := 3) (r := 41) sX_37 rfl fl_X11_257 dX11_age_27 ?_
      refine r_iload_n 1 dX11_age_30 rfl rfl ?_
      obtain ⟨x24, hx24, h⟩ := b1_some h
      refine r_iaload sX_41 hx24 dX11_age_31 ?_
      refine r_iconst (v := 1) dX11_age_32 rfl ?_
      refine r_iadd dX11_age_33 ?_
      refine r_mmin (rest := [.int v22, .ref (ad_ G 41)]) (by omega) ml_X11_243 (Nat.le_of_ble_eq_true rfl) dX11_age_34 ?_
      obtain ⟨S25, hS25, h⟩ := b1_some h
      refine r_iastore sX_41 hS25 dX11_age_37 ?_
      refine r_iinc (v := v22 + 1) [(0, .ref (ad_ G 0)), (1, .int (v22 + 1))] 1 [1, 0] dX11_age_38 rfl rfl (by decide) rfl ?_
      refine r_goto 2 dX11_age_41 (by decide) ?_
      obtain rfl := Option.some.inj h
      exact hB (v22 + 1, S25) rfl
  obtain ⟨u27, hu27, h⟩ := b1_some h
  refine key u27 hu27 ?_
  show Rn G shX 1 yX11_age cX11_age 2 (some .int) 44 [(0, .ref (ad_ G 0))] [] u27 post
  refine r_aload_n 0 dX11_age_44 rfl rfl ?_
  refine r_getC (k := 0) (j := 6) (r := 37) sX_0 rfl fl_X11_50 dX11_age_45 ?_
  refine r_getI (k := 37) (j := 4) sX_37 rfl fl_X11_251 dX11_age_48 ?_
  obtain rfl := Option.some.inj h
  exact r_ireturn rfl dX11_age_51 (hp)
theorem mX11_age {G : Gx} {S : St} {o : (Int32 × St)}  (h : fX11_age S = some o) : MR_ G shX 1 yX11_age cX11_age 2 (some .int) [.ref (ad_ G 0)] S (PI_ o.1 o.2) := MR_of cb_X11_age (Nat.le_of_ble_eq_true rfl) [(0, .ref (ad_ G 0))] rfl (tX11_age  h ⟨rfl, rfl⟩)
set_option maxRecDepth 100000 in
set_option maxHeartbeats 4000000 in
theorem tX4_add {G : Gx} {post : Option Value → St → Prop} {S : St} {v1 : Int32} {v2 : Int32} {v3 : Int32} {o : (Int32 × St)}  (h : fX4_add S v1 v2 v3 = some o) (hp : post (some (.int o.1)) o.2) : Rn G shX 0 yX4_add cX4_add 4 (some .int) 0 [(0, .ref (ad_ G 42)), (1, .int v1), (2, .int v2), (3, .int v3)] [] S post := by
  unfold fX4_add at h
  refine r_aload_n 0 dX4_add_0 rfl rfl ?_
  refine r_getC (k := 42) (j := 2) (r := 43) sX_42 rfl fl_X4_9 dX4_add_1 ?_
  refine r_aload_n 0 dX4_add_4 rfl rfl ?_
  refine r_getI (k := 42) (j := 5) sX_42 rfl fl_X4_21 dX4_add_5 ?_
  refine r_iload_n 1 dX4_add_8 rfl rfl ?_
  obtain ⟨S21, hS21, h⟩ := b1_some h
  refine r_iastore sX_43 hS21 dX4_add_9 ?_
  refine r_aload_n 0 dX4_add_10 rfl rfl ?_
  refine r_getC (k := 42) (j := 3) (r := 44) sX_42 rfl fl_X4_15 dX4_add_11 ?_
  refine r_aload_n 0 dX4_add_14 rfl rfl ?_
  refine r_getI (k := 42) (j := 5) sX_42 rfl fl_X4_21 dX4_add_15 ?_
  refine r_iload_n 2 dX4_add_18 rfl rfl ?_
  obtain ⟨S22, hS22, h⟩ := b1_some h
  refine r_iastore sX_44 hS22 dX4_add_19 ?_
  refine r_aload_n 0 dX4_add_20 rfl rfl ?_
  refine r_getC (k := 42) (j := 4) (r := 45) sX_42 rfl fl_X4_18 dX4_add_21 ?_
  refine r_aload_n 0 dX4_add_24 rfl rfl ?_
  refine r_getI (k := 42) (j := 5) sX_42 rfl fl_X4_21 dX4_add_25 ?_
  refine r_iload_n 3 dX4_add_28 rfl rfl ?_
  obtain ⟨S23, hS23, h⟩ := b1_some h
  refine r_iastore sX_45 hS23 dX4_add_29 ?_
  refine r_aload_n 0 dX4_add_30 rfl rfl ?_
  refine r_dup dX4_add_31 rfl ?_
  refine r_getI (k := 42) (j := 5) sX_42 rfl fl_X4_21 dX4_add_32 ?_
  refine r_iconst (v := 1) dX4_add_35 rfl ?_
  refine r_iadd dX4_add_36 ?_
  obtain ⟨S24, hS24, h⟩ := b1_some h
  refine r_setI (k := 42) (j := 5) sX_42 rfl pf_X4_21 hS24 dX4_add_37 ?_
  refine r_aload_n 0 dX4_add_40 rfl rfl ?_
  refine r_getI (k := 42) (j := 5) sX_42 rfl fl_X4_21 dX4_add_41 ?_
  refine r_iconst (v := 1) dX4_add_44 rfl ?_
  refine r_isub dX4_add_45 ?_
  obtain rfl := Option.some.inj h
  exact r_ireturn rfl dX4_add_46 (hp)
theorem mX4_add {G : Gx} {S : St} {v1 : Int32} {v2 : Int32} {v3 : Int32} {o : (Int32 × St)}  (h : fX4_add S v1 v2 v3 = some o) : MR_ G shX 0 yX4_add cX4_add 4 (some .int) [.ref (ad_ G 42), .int v1, .int v2, .int v3] S (PI_ o.1 o.2) := MR_of cb_X4_add (Nat.le_of_ble_eq_true rfl) [(0, .ref (ad_ G 42)), (1, .int v1), (2, .int v2), (3, .int v3)] rfl (tX4_add  h ⟨rfl, rfl⟩)
set_option maxRecDepth 100000 in
set_option maxHeartbeats 4000000 in
theorem tX11_order {G : Gx} {post : Option Value → St → Prop} {S : St} {v1 : Int32} {v2 : Int32} {v3 : Int32} {o : (Int32 × St)}  (h : fX11_order S v1 v2 v3 = some o) (hp : post (some (.int o.1)) o.2) : Rn G shX 2 yX11_order cX11_order 4 (some .int) 0 [(0, .ref (ad_ G 0)), (1, .int v1), (2, .int v2), (3, .int v3)] [] S post := by
  unfold fX11_order at h
  refine r_aload_n 0 dX11_order_0 rfl rfl ?_
  refine r_getC (k := 0) (j := 2) (r := 21) sX_0 rfl fl_X11_26 dX11_order_1 ?_
  refine r_iload_n 1 dX11_order_4 rfl rfl ?_
  obtain ⟨x21, hx21, h⟩ := b1_some h
  refine r_callVi (k := 21) (rest := []) (by omega) (mX7_has hx21) sX_21 rfl rfl cb_X7_has ml_X11_155 im_X7_has se_X7_has rfl rfl (Nat.le_of_ble_eq_true rfl) dX11_order_5 ?_
  refine r_if_eq 32 dX11_order_8 (by decide) (fun c28 => ?_) (fun c28 => ?_)
  · rw [if_pos c28] at h
    refine r_iconst (v := (-1)) dX11_order_32 rfl ?_
    obtain rfl := Option.some.inj h
    exact r_ireturn rfl dX11_order_33 (hp)
  · rw [if_neg c28] at h
    refine r_iload_n 2 dX11_order_11 rfl rfl ?_
    refine r_iconst (v := 0) dX11_order_12 rfl ?_
    refine r_bipush (v := 99) dX11_order_13 rfl ?_
    obtain ⟨x22, hx22, h⟩ := b1_some h
    refine r_callSi (rest := []) (by omega) (mX11_within hx22) cb_X11_within ml_X11_103 sm_X11_within rfl rfl (Nat.le_of_ble_eq_true rfl) dX11_order_15 ?_
    refine r_if_eq 32 dX11_order_18 (by decide) (fun c27 => ?_) (fun c27 => ?_)
    · rw [if_pos c27] at h
      refine r_iconst (v := (-1)) dX11_order_32 rfl ?_
      obtain rfl := Option.some.inj h
      exact r_ireturn rfl dX11_order_33 (hp)
    · rw [if_neg c27] at h
      refine r_iload_n 3 dX11_order_21 rfl rfl ?_
      refine r_iconst (v := 1) dX11_order_22 rfl ?_
      refine r_sipush (v := 1000) dX11_order_23 rfl ?_
      obtain ⟨x23, hx23, h⟩ := b1_some h
      refine r_callSi (rest := []) (by omega) (mX11_within hx23) cb_X11_within ml_X11_103 sm_X11_within rfl rfl (Nat.le_of_ble_eq_true rfl) dX11_order_26 ?_
      refine r_if_ne 34 dX11_order_29 (by decide) (fun c26 => ?_) (fun c26 => ?_)
      · rw [if_neg c26] at h
        refine r_aload_n 0 dX11_order_34 rfl rfl ?_
        refine r_getC (k := 0) (j := 7) (r := 42) sX_0 rfl fl_X11_59 dX11_order_35 ?_
        refine r_getI (k := 42) (j := 5) sX_42 rfl fl_X11_263 dX11_order_38 ?_
        refine r_bipush (v := 8) dX11_order_41 rfl ?_
        refine r_icmp_lt 49 dX11_order_43 (by decide) (fun c25 => ?_) (fun c25 => ?_)
        · rw [if_pos c25] at h
          refine r_aload_n 0 dX11_order_49 rfl rfl ?_
          refine r_getC (k := 0) (j := 7) (r := 42) sX_0 rfl fl_X11_59 dX11_order_50 ?_
          refine r_iload_n 1 dX11_order_53 rfl rfl ?_
          refine r_iload_n 2 dX11_order_54 rfl rfl ?_
          refine r_iload_n 3 dX11_order_55 rfl rfl ?_
          obtain ⟨q24, hq24, h⟩ := b1_some h
          refine r_callVi (k := 42) (rest := []) (by omega) (mX4_add hq24) sX_42 rfl rfl cb_X4_add ml_X11_264 im_X4_add se_X4_add rfl rfl (Nat.le_of_ble_eq_true rfl) dX11_order_56 ?_
          obtain rfl := Option.some.inj h
          exact r_ireturn rfl dX11_order_59 (hp)
        · rw [if_neg c25] at h
          refine r_bipush (v := (-3)) dX11_order_46 rfl ?_
          obtain rfl := Option.some.inj h
          exact r_ireturn rfl dX11_order_48 (hp)
      · rw [if_pos c26] at h
        refine r_iconst (v := (-1)) dX11_order_32 rfl ?_
        obtain rfl := Option.some.inj h
        exact r_ireturn rfl dX11_order_33 (hp)
theorem mX11_order {G : Gx} {S : St} {v1 : Int32} {v2 : Int32} {v3 : Int32} {o : (Int32 × St)}  (h : fX11_order S v1 v2 v3 = some o) : MR_ G shX 2 yX11_order cX11_order 4 (some .int) [.ref (ad_ G 0), .int v1, .int v2, .int v3] S (PI_ o.1 o.2) := MR_of cb_X11_order (Nat.le_of_ble_eq_true rfl) [(0, .ref (ad_ G 0)), (1, .int v1), (2, .int v2), (3, .int v3)] rfl (tX11_order  h ⟨rfl, rfl⟩)
set_option maxRecDepth 100000 in
set_option maxHeartbeats 4000000 in
theorem tX4_findSuiting {G : Gx} {post : Option Value → St → Prop} {S : St} {o : St}  (h : fX4_findSuiting S = some o) (hp : post none o) : Rn G shX 2 yX4_findSuiting cX4_findSuiting 3 none 0 [(0, .ref (ad_ G 42))] [] S post := by
  unfold fX4_findSuiting at h
  refine r_iconst (v := 0) dX4_findSuiting_0 rfl ?_
  refine r_istore_n (i := 1) [(0, .ref (ad_ G 42)), (1, .int 0)] [1, 0] dX4_findSuiting_1 rfl (by decide) rfl ?_
  have key : ∀ ex, lp (fun w21 : Int32 × St => bX4_findSuiting_2  w21.1 w21.2) 5000 (0, S) = some ex → (fun u35 : St => Rn G shX 2 yX4_findSuiting cX4_findSuiting 3 none 63 [] [] u35 post) ex → Rn G shX 2 yX4_findSuiting cX4_findSuiting 3 none 2 [(0, .ref (ad_ G 42)), (1, .int 0)] [] S post := by
    intro ex hl hx
    refine lp_rule (body := (fun w21 : Int32 × St => bX4_findSuiting_2  w21.1 w21.2)) (R := (fun w21 : Int32 × St => Rn G shX 2 yX4_findSuiting cX4_findSuiting 3 none 2 [(0, .ref (ad_ G 42)), (1, .int w21.1)] [] w21.2 post)) (X := (fun u35 : St => Rn G shX 2 yX4_findSuiting cX4_findSuiting 3 none 63 [] [] u35 post)) ?_ 5000 (0, S) ex hl hx
    intro w21 oo h hB hX
    obtain ⟨v22, S23⟩ := w21
    replace h : bX4_findSuiting_2  v22 S23 = some oo := h
    unfold bX4_findSuiting_2 at h
    show Rn G shX 2 yX4_findSuiting cX4_findSuiting 3 none 2 [(0, .ref (ad_ G 42)), (1, .int v22)] [] S23 post
    refine r_iload_n 1 dX4_findSuiting_2 rfl rfl ?_
    refine r_aload_n 0 dX4_findSuiting_3 rfl rfl ?_
    refine r_getI (k := 42) (j := 5) sX_42 rfl fl_X4_21 dX4_findSuiting_4 ?_
    refine r_icmp_ge 63 dX4_findSuiting_7 (by decide) (fun c34 => ?_) (fun c34 => ?_)
    · rw [if_pos c34] at h
      refine r_sub [] [] rfl ?_
      obtain rfl := Option.some.inj h
      exact hX S23 rfl
    · rw [if_neg c34] at h
      refine r_aload_n 0 dX4_findSuiting_10 rfl rfl ?_
      refine r_getC (k := 42) (j := 7) (r := 47) sX_42 rfl fl_X4_28 dX4_findSuiting_11 ?_
      refine r_iload_n 1 dX4_findSuiting_14 rfl rfl ?_
      refine r_iconst (v := 0) dX4_findSuiting_15 rfl ?_
      obtain ⟨S24, hS24, h⟩ := b1_some h
      refine r_iastore sX_47 hS24 dX4_findSuiting_16 ?_
      refine r_iconst (v := 0) dX4_findSuiting_17 rfl ?_
      refine r_istore_n (i := 2) [(0, .ref (ad_ G 42)), (1, .int v22), (2, .int 0)] [1, 2, 0] dX4_findSuiting_18 rfl (by decide) rfl ?_
      have key : ∀ ex, lp (fun w25 : Int32 × St => bX4_findSuiting_19 v22 w25.1 w25.2) 5000 (0, S24) = some ex → (fun u33 : St => Rn G shX 2 yX4_findSuiting cX4_findSuiting 3 none 57 [(0, .ref (ad_ G 42)), (1, .int v22)] [] u33 post) ex → Rn G shX 2 yX4_findSuiting cX4_findSuiting 3 none 19 [(0, .ref (ad_ G 42)), (1, .int v22), (2, .int 0)] [] S24 post := by
        intro ex hl hx
        refine lp_rule (body := (fun w25 : Int32 × St => bX4_findSuiting_19 v22 w25.1 w25.2)) (R := (fun w25 : Int32 × St => Rn G shX 2 yX4_findSuiting cX4_findSuiting 3 none 19 [(0, .ref (ad_ G 42)), (1, .int v22), (2, .int w25.1)] [] w25.2 post)) (X := (fun u33 : St => Rn G shX 2 yX4_findSuiting cX4_findSuiting 3 none 57 [(0, .ref (ad_ G 42)), (1, .int v22)] [] u33 post)) ?_ 5000 (0, S24) ex hl hx
        intro w25 oo h hB hX
        obtain ⟨v26, S27⟩ := w25
        replace h : bX4_findSuiting_19 v22 v26 S27 = some oo := h
        unfold bX4_findSuiting_19 at h
        show Rn G shX 2 yX4_findSuiting cX4_findSuiting 3 none 19 [(0, .ref (ad_ G 42)), (1, .int v22), (2, .int v26)] [] S27 post
        refine r_iload_n 2 dX4_findSuiting_19 rfl rfl ?_
        refine r_aload_n 0 dX4_findSuiting_20 rfl rfl ?_
        refine r_getC (k := 42) (j := 0) (r := 37) sX_42 rfl fl_X4_40 dX4_findSuiting_21 ?_
        refine r_getI (k := 37) (j := 4) sX_37 rfl fl_X4_78 dX4_findSuiting_24 ?_
        refine r_icmp_ge 57 dX4_findSuiting_27 (by decide) (fun c32 => ?_) (fun c32 => ?_)
        · rw [if_pos c32] at h
          refine r_sub [(0, .ref (ad_ G 42)), (1, .int v22)] [0, 1] rfl ?_
          obtain rfl := Option.some.inj h
          exact hX S27 rfl
        · rw [if_neg c32] at h
          refine r_aload_n 0 dX4_findSuiting_30 rfl rfl ?_
          refine r_iload_n 2 dX4_findSuiting_31 rfl rfl ?_
          refine r_iload_n 1 dX4_findSuiting_32 rfl rfl ?_
          obtain ⟨x28, hx28, h⟩ := b1_some h
          refine r_callVi (k := 42) (rest := []) (by omega) (mX4_doesFor hx28) sX_42 rfl rfl cb_X4_doesFor ml_X4_71 im_X4_doesFor se_X4_doesFor rfl rfl (Nat.le_of_ble_eq_true rfl) dX4_findSuiting_33 ?_
          refine r_if_eq 51 dX4_findSuiting_36 (by decide) (fun c31 => ?_) (fun c31 => ?_)
          · rw [if_pos c31] at h
            refine r_iinc (v := v26 + 1) [(0, .ref (ad_ G 42)), (1, .int v22), (2, .int (v26 + 1))] 2 [1, 2, 0] dX4_findSuiting_51 rfl rfl (by decide) rfl ?_
            refine r_goto 19 dX4_findSuiting_54 (by decide) ?_
            obtain rfl := Option.some.inj h
            exact hB (v26 + 1, S27) rfl
          · rw [if_neg c31] at h
            refine r_aload_n 0 dX4_findSuiting_39 rfl rfl ?_
            refine r_getC (k := 42) (j := 7) (r := 47) sX_42 rfl fl_X4_28 dX4_findSuiting_40 ?_
            refine r_iload_n 1 dX4_findSuiting_43 rfl rfl ?_
            refine r_dup2_11 dX4_findSuiting_44 rfl rfl ?_
            obtain ⟨x29, hx29, h⟩ := b1_some h
            refine r_iaload sX_47 hx29 dX4_findSuiting_45 ?_
            refine r_iconst (v := 1) dX4_findSuiting_46 rfl ?_
            refine r_iload_n 2 dX4_findSuiting_47 rfl rfl ?_
            refine r_ishl dX4_findSuiting_48 ?_
            refine r_ior dX4_findSuiting_49 ?_
            obtain ⟨S30, hS30, h⟩ := b1_some h
            refine r_iastore sX_47 hS30 dX4_findSuiting_50 ?_
            refine r_iinc (v := v26 + 1) [(0, .ref (ad_ G 42)), (1, .int v22), (2, .int (v26 + 1))] 2 [1, 2, 0] dX4_findSuiting_51 rfl rfl (by decide) rfl ?_
            refine r_goto 19 dX4_findSuiting_54 (by decide) ?_
            obtain rfl := Option.some.inj h
            exact hB (v26 + 1, S30) rfl
      obtain ⟨u33, hu33, h⟩ := b1_some h
      refine key u33 hu33 ?_
      show Rn G shX 2 yX4_findSuiting cX4_findSuiting 3 none 57 [(0, .ref (ad_ G 42)), (1, .int v22)] [] u33 post
      refine r_iinc (v := v22 + 1) [(0, .ref (ad_ G 42)), (1, .int (v22 + 1))] 1 [1, 0] dX4_findSuiting_57 rfl rfl (by decide) rfl ?_
      refine r_goto 2 dX4_findSuiting_60 (by decide) ?_
      obtain rfl := Option.some.inj h
      exact hB (v22 + 1, u33) rfl
  obtain ⟨u35, hu35, h⟩ := b1_some h
  refine key u35 hu35 ?_
  show Rn G shX 2 yX4_findSuiting cX4_findSuiting 3 none 63 [] [] u35 post
  obtain rfl := Option.some.inj h
  exact r_return rfl dX4_findSuiting_63 (hp)
theorem mX4_findSuiting {G : Gx} {S : St} {o : St}  (h : fX4_findSuiting S = some o) : MR_ G shX 2 yX4_findSuiting cX4_findSuiting 3 none [.ref (ad_ G 42)] S (PV_ o) := MR_of cb_X4_findSuiting (Nat.le_of_ble_eq_true rfl) [(0, .ref (ad_ G 42))] rfl (tX4_findSuiting  h ⟨rfl, rfl⟩)
set_option maxRecDepth 100000 in
set_option maxHeartbeats 4000000 in
theorem tX4_bestPaid {G : Gx} {post : Option Value → St → Prop} {S : St} {v1 : Int32} {o : Int32}  (h : fX4_bestPaid S v1 = some o) (hp : post (some (.int o)) S) : Rn G shX 0 yX4_bestPaid cX4_bestPaid 5 (some .int) 0 [(0, .ref (ad_ G 42)), (1, .int v1)] [] S post := by
  unfold fX4_bestPaid at h
  refine r_iconst (v := 0) dX4_bestPaid_0 rfl ?_
  refine r_istore_n (i := 2) [(0, .ref (ad_ G 42)), (1, .int v1), (2, .int 0)] [1, 2, 0] dX4_bestPaid_1 rfl (by decide) rfl ?_
  refine r_iconst (v := 0) dX4_bestPaid_2 rfl ?_
  refine r_istore_n (i := 3) [(0, .ref (ad_ G 42)), (1, .int v1), (2, .int 0), (3, .int 0)] [1, 2, 3, 0] dX4_bestPaid_3 rfl (by decide) rfl ?_
  refine r_iconst (v := 0) dX4_bestPaid_4 rfl ?_
  refine r_istore (i := 4) [(0, .ref (ad_ G 42)), (1, .int v1), (2, .int 0), (3, .int 0), (4, .int 0)] [1, 2, 3, 4, 0] dX4_bestPaid_5 (by decide) rfl ?_
  have key : ∀ ex, lp (fun w21 : Int32 × Int32 × Int32 => bX4_bestPaid_7 S v1 w21.1 w21.2.1 w21.2.2) 5000 (0, 0, 0) = some ex → (fun u30 : Int32 => Rn G shX 0 yX4_bestPaid cX4_bestPaid 5 (some .int) 54 [(2, .int u30)] [] S post) ex → Rn G shX 0 yX4_bestPaid cX4_bestPaid 5 (some .int) 7 [(0, .ref (ad_ G 42)), (1, .int v1), (2, .int 0), (3, .int 0), (4, .int 0)] [] S post := by
    intro ex hl hx
    refine lp_rule (body := (fun w21 : Int32 × Int32 × Int32 => bX4_bestPaid_7 S v1 w21.1 w21.2.1 w21.2.2)) (R := (fun w21 : Int32 × Int32 × Int32 => Rn G shX 0 yX4_bestPaid cX4_bestPaid 5 (some .int) 7 [(0, .ref (ad_ G 42)), (1, .int v1), (2, .int w21.1), (3, .int w21.2.1), (4, .int w21.2.2)] [] S post)) (X := (fun u30 : Int32 => Rn G shX 0 yX4_bestPaid cX4_bestPaid 5 (some .int) 54 [(2, .int u30)] [] S post)) ?_ 5000 (0, 0, 0) ex hl hx
    intro w21 oo h hB hX
    obtain ⟨v22, v23, v24⟩ := w21
    replace h : bX4_bestPaid_7 S v1 v22 v23 v24 = some oo := h
    unfold bX4_bestPaid_7 at h
    show Rn G shX 0 yX4_bestPaid cX4_bestPaid 5 (some .int) 7 [(0, .ref (ad_ G 42)), (1, .int v1), (2, .int v22), (3, .int v23), (4, .int v24)] [] S post
    refine r_iload 4 dX4_bestPaid_7 rfl ?_
    refine r_aload_n 0 dX4_bestPaid_9 rfl rfl ?_
    refine r_getI (k := 42) (j := 5) sX_42 rfl fl_X4_21 dX4_bestPaid_10 ?_
    refine r_icmp_ge 54 dX4_bestPaid_13 (by decide) (fun c29 => ?_) (fun c29 => ?_)
    · rw [if_pos c29] at h
      refine r_sub [(2, .int v22)] [2] rfl ?_
      obtain rfl := Option.some.inj h
      exact hX v22 rfl
    · rw [if_neg c29] at h
      refine r_iload_n 1 dX4_bestPaid_16 rfl rfl ?_
      refine r_iload 4 dX4_bestPaid_17 rfl ?_
      refine r_ishr dX4_bestPaid_19 ?_
      refine r_iconst (v := 1) dX4_bestPaid_20 rfl ?_
      refine r_iand dX4_bestPaid_21 ?_
      refine r_iconst (v := 1) dX4_bestPaid_22 rfl ?_
      refine r_icmp_ne 48 dX4_bestPaid_23 (by decide) (fun c28 => ?_) (fun c28 => ?_)
      · rw [if_neg c28] at h
        refine r_iinc (v := v24 + 1) [(0, .ref (ad_ G 42)), (1, .int v1), (2, .int v22), (3, .int v23), (4, .int (v24 + 1))] 4 [1, 2, 3, 4, 0] dX4_bestPaid_48 rfl rfl (by decide) rfl ?_
        refine r_goto 7 dX4_bestPaid_51 (by decide) ?_
        obtain rfl := Option.some.inj h
        exact hB (v22, v23, v24 + 1) rfl
      · rw [if_pos c28] at h
        refine r_aload_n 0 dX4_bestPaid_26 rfl rfl ?_
        refine r_getC (k := 42) (j := 4) (r := 45) sX_42 rfl fl_X4_18 dX4_bestPaid_27 ?_
        refine r_iload 4 dX4_bestPaid_30 rfl ?_
        obtain ⟨x25, hx25, h⟩ := b1_some h
        refine r_iaload sX_45 hx25 dX4_bestPaid_32 ?_
        refine r_iload_n 3 dX4_bestPaid_33 rfl rfl ?_
        refine r_icmp_le 48 dX4_bestPaid_34 (by decide) (fun c27 => ?_) (fun c27 => ?_)
        · rw [if_pos c27] at h
          refine r_iinc (v := v24 + 1) [(0, .ref (ad_ G 42)), (1, .int v1), (2, .int v22), (3, .int v23), (4, .int (v24 + 1))] 4 [1, 2, 3, 4, 0] dX4_bestPaid_48 rfl rfl (by decide) rfl ?_
          refine r_goto 7 dX4_bestPaid_51 (by decide) ?_
          obtain rfl := Option.some.inj h
          exact hB (v22, v23, v24 + 1) rfl
        · rw [if_neg c27] at h
          refine r_iload 4 dX4_bestPaid_37 rfl ?_
          refine r_istore_n (i := 2) [(0, .ref (ad_ G 42)), (1, .int v1), (2, .int v24), (3, .int v23), (4, .int v24)] [1, 2, 0, 3, 4] dX4_bestPaid_39 rfl (by decide) rfl ?_
          refine r_aload_n 0 dX4_bestPaid_40 rfl rfl ?_
          refine r_getC (k := 42) (j := 4) (r := 45) sX_42 rfl fl_X4_18 dX4_bestPaid_41 ?_
          refine r_iload 4 dX4_bestPaid_44 rfl ?_
          obtain ⟨x26, hx26, h⟩ := b1_some h
          refine r_iaload sX_45 hx26 dX4_bestPaid_46 ?_
          refine r_istore_n (i := 3) [(0, .ref (ad_ G 42)), (1, .int v1), (2, .int v24), (3, .int x26), (4, .int v24)] [1, 2, 3, 0, 4] dX4_bestPaid_47 rfl (by decide) rfl ?_
          refine r_iinc (v := v24 + 1) [(0, .ref (ad_ G 42)), (1, .int v1), (2, .int v24), (3, .int x26), (4, .int (v24 + 1))] 4 [1, 2, 3, 4, 0] dX4_bestPaid_48 rfl rfl (by decide) rfl ?_
          refine r_goto 7 dX4_bestPaid_51 (by decide) ?_
          obtain rfl := Option.some.inj h
          exact hB (v24, x26, v24 + 1) rfl
  obtain ⟨u30, hu30, h⟩ := b1_some h
  refine key u30 hu30 ?_
  show Rn G shX 0 yX4_bestPaid cX4_bestPaid 5 (some .int) 54 [(2, .int u30)] [] S post
  refine r_iload_n 0 dX4_bestPaid_54 rfl rfl ?_
  obtain rfl := Option.some.inj h
  exact r_ireturn rfl dX4_bestPaid_55 (hp)
theorem mX4_bestPaid {G : Gx} {S : St} {v1 : Int32} {o : Int32}  (h : fX4_bestPaid S v1 = some o) : MR_ G shX 0 yX4_bestPaid cX4_bestPaid 5 (some .int) [.ref (ad_ G 42), .int v1] S (PI_ o S) := MR_of cb_X4_bestPaid (Nat.le_of_ble_eq_true rfl) [(0, .ref (ad_ G 42)), (1, .int v1)] rfl (tX4_bestPaid  h ⟨rfl, rfl⟩)
