set_option maxRecDepth 100000 in
set_option maxHeartbeats 4000000 in
theorem tX6_sortShapes {G : Gx} {post : Option Value → St → Prop} {S : St} {o : St}  (h : fX6_sortShapes S = some o) (hp : post none o) : Rn G shX 1 yX6_sortShapes cX6_sortShapes 4 none 0 [(0, .ref (ad_ G 27))] [] S post := by
  unfold fX6_sortShapes at h
  refine r_iconst (v := 0) dX6_sortShapes_0 rfl ?_
  refine r_istore_n (i := 1) [(0, .ref (ad_ G 27)), (1, .int 0)] [1, 0] dX6_sortShapes_1 rfl (by decide) rfl ?_
  have key : ∀ ex, lp (fun w21 : Int32 × St => bX6_sortShapes_2  w21.1 w21.2) 5000 (0, S) = some ex → (fun u26 : St => Rn G shX 1 yX6_sortShapes cX6_sortShapes 4 none 21 [(0, .ref (ad_ G 27))] [] u26 post) ex → Rn G shX 1 yX6_sortShapes cX6_sortShapes 4 none 2 [(0, .ref (ad_ G 27)), (1, .int 0)] [] S post := by
    intro ex hl hx
    refine lp_rule (body := (fun w21 : Int32 × St => bX6_sortShapes_2  w21.1 w21.2)) (R := (fun w21 : Int32 × St => Rn G shX 1 yX6_sortShapes cX6_sortShapes 4 none 2 [(0, .ref (ad_ G 27)), (1, .int w21.1)] [] w21.2 post)) (X := (fun u26 : St => Rn G shX 1 yX6_sortShapes cX6_sortShapes 4 none 21 [(0, .ref (ad_ G 27))] [] u26 post)) ?_ 5000 (0, S) ex hl hx
    intro w21 oo h hB hX
    obtain ⟨v22, S23⟩ := w21
    replace h : bX6_sortShapes_2  v22 S23 = some oo := h
    unfold bX6_sortShapes_2 at h
    show Rn G shX 1 yX6_sortShapes cX6_sortShapes 4 none 2 [(0, .ref (ad_ G 27)), (1, .int v22)] [] S23 post
    refine r_iload_n 1 dX6_sortShapes_2 rfl rfl ?_
    refine r_bipush (v := 64) dX6_sortShapes_3 rfl ?_
    refine r_icmp_ge 21 dX6_sortShapes_5 (by decide) (fun c25 => ?_) (fun c25 => ?_)
    · rw [if_pos c25] at h
      refine r_sub [(0, .ref (ad_ G 27))] [0] rfl ?_
      obtain rfl := Option.some.inj h
      exact hX S23 rfl
    · rw [if_neg c25] at h
      refine r_aload_n 0 dX6_sortShapes_8 rfl rfl ?_
      refine r_getC (k := 27) (j := 5) (r := 30) sX_27 rfl fl_X6_23 dX6_sortShapes_9 ?_
      refine r_iload_n 1 dX6_sortShapes_12 rfl rfl ?_
      refine r_iconst (v := 0) dX6_sortShapes_13 rfl ?_
      obtain ⟨S24, hS24, h⟩ := b1_some h
      refine r_iastore sX_30 hS24 dX6_sortShapes_14 ?_
      refine r_iinc (v := v22 + 1) [(0, .ref (ad_ G 27)), (1, .int (v22 + 1))] 1 [1, 0] dX6_sortShapes_15 rfl rfl (by decide) rfl ?_
      refine r_goto 2 dX6_sortShapes_18 (by decide) ?_
      obtain rfl := Option.some.inj h
      exact hB (v22 + 1, S24) rfl
  obtain ⟨u26, hu26, h⟩ := b1_some h
  refine key u26 hu26 ?_
  show Rn G shX 1 yX6_sortShapes cX6_sortShapes 4 none 21 [(0, .ref (ad_ G 27))] [] u26 post
  refine r_iconst (v := 0) dX6_sortShapes_21 rfl ?_
  refine r_istore_n (i := 1) [(0, .ref (ad_ G 27)), (1, .int 0)] [1, 0] dX6_sortShapes_22 rfl (by decide) rfl ?_
  have key : ∀ ex, lp (fun w27 : Int32 × St => bX6_sortShapes_23  w27.1 w27.2) 5000 (0, u26) = some ex → (fun u41 : St => Rn G shX 1 yX6_sortShapes cX6_sortShapes 4 none 108 [] [] u41 post) ex → Rn G shX 1 yX6_sortShapes cX6_sortShapes 4 none 23 [(0, .ref (ad_ G 27)), (1, .int 0)] [] u26 post := by
    intro ex hl hx
    refine lp_rule (body := (fun w27 : Int32 × St => bX6_sortShapes_23  w27.1 w27.2)) (R := (fun w27 : Int32 × St => Rn G shX 1 yX6_sortShapes cX6_sortShapes 4 none 23 [(0, .ref (ad_ G 27)), (1, .int w27.1)] [] w27.2 post)) (X := (fun u41 : St => Rn G shX 1 yX6_sortShapes cX6_sortShapes 4 none 108 [] [] u41 post)) ?_ 5000 (0, u26) ex hl hx
    intro w27 oo h hB hX
    obtain ⟨v28, S29⟩ := w27
    replace h : bX6_sortShapes_23  v28 S29 = some oo := h
    unfold bX6_sortShapes_23 at h
    show Rn G shX 1 yX6_sortShapes cX6_sortShapes 4 none 23 [(0, .ref (ad_ G 27)), (1, .int v28)] [] S29 post
    refine r_iload_n 1 dX6_sortShapes_23 rfl rfl ?_
    refine r_aload_n 0 dX6_sortShapes_24 rfl rfl ?_
    refine r_getC (k := 27) (j := 1) (r := 21) sX_27 rfl fl_X6_54 dX6_sortShapes_25 ?_
    refine r_getI (k := 21) (j := 5) sX_21 rfl fl_X6_91 dX6_sortShapes_28 ?_
    refine r_icmp_ge 108 dX6_sortShapes_31 (by decide) (fun c40 => ?_) (fun c40 => ?_)
    · rw [if_pos c40] at h
      refine r_sub [] [] rfl ?_
      obtain rfl := Option.some.inj h
      exact hX S29 rfl
    · rw [if_neg c40] at h
      refine r_aload_n 0 dX6_sortShapes_34 rfl rfl ?_
      refine r_getC (k := 27) (j := 1) (r := 21) sX_27 rfl fl_X6_54 dX6_sortShapes_35 ?_
      refine r_getC (k := 21) (j := 0) (r := 22) sX_21 rfl fl_X6_96 dX6_sortShapes_38 ?_
      refine r_iload_n 1 dX6_sortShapes_41 rfl rfl ?_
      obtain ⟨x30, hx30, h⟩ := b1_some h
      refine r_iaload sX_22 hx30 dX6_sortShapes_42 ?_
      refine r_iconst (v := 1) dX6_sortShapes_43 rfl ?_
      refine r_isub dX6_sortShapes_44 ?_
      refine r_istore_n (i := 2) [(0, .ref (ad_ G 27)), (1, .int v28), (2, .int (x30 - 1))] [1, 2, 0] dX6_sortShapes_45 rfl (by decide) rfl ?_
      refine r_aload_n 0 dX6_sortShapes_46 rfl rfl ?_
      refine r_getC (k := 27) (j := 1) (r := 21) sX_27 rfl fl_X6_54 dX6_sortShapes_47 ?_
      refine r_getC (k := 21) (j := 1) (r := 23) sX_21 rfl fl_X6_98 dX6_sortShapes_50 ?_
      refine r_iload_n 1 dX6_sortShapes_53 rfl rfl ?_
      obtain ⟨x31, hx31, h⟩ := b1_some h
      refine r_iaload sX_23 hx31 dX6_sortShapes_54 ?_
      refine r_iconst (v := 1) dX6_sortShapes_55 rfl ?_
      refine r_isub dX6_sortShapes_56 ?_
      refine r_istore_n (i := 3) [(0, .ref (ad_ G 27)), (1, .int v28), (2, .int (x30 - 1)), (3, .int (x31 - 1))] [1, 2, 3, 0] dX6_sortShapes_57 rfl (by decide) rfl ?_
      refine r_aload_n 0 dX6_sortShapes_58 rfl rfl ?_
      refine r_getC (k := 27) (j := 5) (r := 30) sX_27 rfl fl_X6_23 dX6_sortShapes_59 ?_
      refine r_iload_n 2 dX6_sortShapes_62 rfl rfl ?_
      refine r_iload_n 3 dX6_sortShapes_63 rfl rfl ?_
      obtain ⟨x32, hx32, h⟩ := b1_some h
      refine r_callSNi (rest := [.ref (ad_ G 30)]) (by omega) (mX11_squareAt hx32) cb_X11_squareAt (by decide) sm_X11_squareAt rfl rfl (Nat.le_of_ble_eq_true rfl) dX6_sortShapes_64 ?_
      refine r_dup2_11 dX6_sortShapes_67 rfl rfl ?_
      obtain ⟨x33, hx33, h⟩ := b1_some h
      refine r_iaload sX_30 hx33 dX6_sortShapes_68 ?_
      refine r_iconst (v := 1) dX6_sortShapes_69 rfl ?_
      refine r_iload_n 1 dX6_sortShapes_70 rfl rfl ?_
      refine r_ishl dX6_sortShapes_71 ?_
      refine r_ior dX6_sortShapes_72 ?_
      obtain ⟨S34, hS34, h⟩ := b1_some h
      refine r_iastore sX_30 hS34 dX6_sortShapes_73 ?_
      refine r_aload_n 0 dX6_sortShapes_74 rfl rfl ?_
      refine r_getC (k := 27) (j := 1) (r := 21) sX_27 rfl fl_X6_54 dX6_sortShapes_75 ?_
      refine r_getC (k := 21) (j := 4) (r := 26) sX_21 rfl fl_X6_100 dX6_sortShapes_78 ?_
      refine r_iload_n 1 dX6_sortShapes_81 rfl rfl ?_
      obtain ⟨x35, hx35, h⟩ := b1_some h
      refine r_zaload sX_26 hx35 dX6_sortShapes_82 ?_
      refine r_if_eq 102 dX6_sortShapes_83 (by decide) (fun c39 => ?_) (fun c39 => ?_)
      · rw [if_pos c39] at h
        refine r_iinc (v := v28 + 1) [(0, .ref (ad_ G 27)), (1, .int (v28 + 1)), (2, .int (x30 - 1)), (3, .int (x31 - 1))] 1 [1, 0, 2, 3] dX6_sortShapes_102 rfl rfl (by decide) rfl ?_
        refine r_goto 23 dX6_sortShapes_105 (by decide) ?_
        refine r_sub [(0, .ref (ad_ G 27)), (1, .int (v28 + 1))] [0, 1] rfl ?_
        obtain rfl := Option.some.inj h
        exact hB (v28 + 1, S34) rfl
      · rw [if_neg c39] at h
        refine r_aload_n 0 dX6_sortShapes_86 rfl rfl ?_
        refine r_getC (k := 27) (j := 5) (r := 30) sX_27 rfl fl_X6_23 dX6_sortShapes_87 ?_
        refine r_iload_n 3 dX6_sortShapes_90 rfl rfl ?_
        refine r_iload_n 2 dX6_sortShapes_91 rfl rfl ?_
        obtain ⟨x36, hx36, h⟩ := b1_some h
        refine r_callSNi (rest := [.ref (ad_ G 30)]) (by omega) (mX11_squareAt hx36) cb_X11_squareAt (by decide) sm_X11_squareAt rfl rfl (Nat.le_of_ble_eq_true rfl) dX6_sortShapes_92 ?_
        refine r_dup2_11 dX6_sortShapes_95 rfl rfl ?_
        obtain ⟨x37, hx37, h⟩ := b1_some h
        refine r_iaload sX_30 hx37 dX6_sortShapes_96 ?_
        refine r_iconst (v := 1) dX6_sortShapes_97 rfl ?_
        refine r_iload_n 1 dX6_sortShapes_98 rfl rfl ?_
        refine r_ishl dX6_sortShapes_99 ?_
        refine r_ior dX6_sortShapes_100 ?_
        obtain ⟨S38, hS38, h⟩ := b1_some h
        refine r_iastore sX_30 hS38 dX6_sortShapes_101 ?_
        refine r_iinc (v := v28 + 1) [(0, .ref (ad_ G 27)), (1, .int (v28 + 1)), (2, .int (x30 - 1)), (3, .int (x31 - 1))] 1 [1, 0, 2, 3] dX6_sortShapes_102 rfl rfl (by decide) rfl ?_
        refine r_goto 23 dX6_sortShapes_105 (by decide) ?_
        refine r_sub [(0, .ref (ad_ G 27)), (1, .int (v28 + 1))] [0, 1] rfl ?_
        obtain rfl := Option.some.inj h
        exact hB (v28 + 1, S38) rfl
  obtain ⟨u41, hu41, h⟩ := b1_some h
  refine key u41 hu41 ?_
  show Rn G shX 1 yX6_sortShapes cX6_sortShapes 4 none 108 [] [] u41 post
  obtain rfl := Option.some.inj h
  exact r_return rfl dX6_sortShapes_108 (hp)
theorem mX6_sortShapes {G : Gx} {S : St} {o : St}  (h : fX6_sortShapes S = some o) : MR_ G shX 1 yX6_sortShapes cX6_sortShapes 4 none [.ref (ad_ G 27)] S (PV_ o) := MR_of cb_X6_sortShapes (Nat.le_of_ble_eq_true rfl) [(0, .ref (ad_ G 27))] rfl (tX6_sortShapes  h ⟨rfl, rfl⟩)
set_option maxRecDepth 100000 in
set_option maxHeartbeats 4000000 in
theorem tX6_markOf {G : Gx} {post : Option Value → St → Prop} {S : St} {v1 : Int32} {v2 : Int32} {v3 : Int32} {v4 : Int32} {o : Int32}  (h : fX6_markOf S v1 v2 v3 v4 = some o) (hp : post (some (.int o)) S) : Rn G shX 1 yX6_markOf cX6_markOf 8 (some .int) 0 [(0, .ref (ad_ G 27)), (1, .int v1), (2, .int v2), (3, .int v3), (4, .int v4)] [] S post := by
  unfold fX6_markOf at h
  refine r_iconst (v := (-1)) dX6_markOf_0 rfl ?_
  refine r_istore (i := 5) [(0, .ref (ad_ G 27)), (1, .int v1), (2, .int v2), (3, .int v3), (4, .int v4), (5, .int (-1))] [1, 2, 3, 4, 5, 0] dX6_markOf_1 (by decide) rfl ?_
  refine r_iload_n 2 dX6_markOf_3 rfl rfl ?_
  refine r_istore (i := 6) [(0, .ref (ad_ G 27)), (1, .int v1), (2, .int v2), (3, .int v3), (4, .int v4), (5, .int (-1)), (6, .int v2)] [1, 2, 3, 4, 5, 6, 0] dX6_markOf_4 (by decide) rfl ?_
  have key : ∀ ex, lp (fun w21 : Int32 × Int32 => bX6_markOf_6 S v1 v2 v3 v4 w21.1 w21.2) 5000 ((-1), v2) = some ex → (fun u32 : Int32 => Rn G shX 1 yX6_markOf cX6_markOf 8 (some .int) 55 [(5, .int u32)] [] S post) ex → Rn G shX 1 yX6_markOf cX6_markOf 8 (some .int) 6 [(0, .ref (ad_ G 27)), (1, .int v1), (2, .int v2), (3, .int v3), (4, .int v4), (5, .int (-1)), (6, .int v2)] [] S post := by
    intro ex hl hx
    refine lp_rule (body := (fun w21 : Int32 × Int32 => bX6_markOf_6 S v1 v2 v3 v4 w21.1 w21.2)) (R := (fun w21 : Int32 × Int32 => Rn G shX 1 yX6_markOf cX6_markOf 8 (some .int) 6 [(0, .ref (ad_ G 27)), (1, .int v1), (2, .int v2), (3, .int v3), (4, .int v4), (5, .int w21.1), (6, .int w21.2)] [] S post)) (X := (fun u32 : Int32 => Rn G shX 1 yX6_markOf cX6_markOf 8 (some .int) 55 [(5, .int u32)] [] S post)) ?_ 5000 ((-1), v2) ex hl hx
    intro w21 oo h hB hX
    obtain ⟨v22, v23⟩ := w21
    replace h : bX6_markOf_6 S v1 v2 v3 v4 v22 v23 = some oo := h
    unfold bX6_markOf_6 at h
    show Rn G shX 1 yX6_markOf cX6_markOf 8 (some .int) 6 [(0, .ref (ad_ G 27)), (1, .int v1), (2, .int v2), (3, .int v3), (4, .int v4), (5, .int v22), (6, .int v23)] [] S post
    refine r_iload 6 dX6_markOf_6 rfl ?_
    refine r_iload_n 2 dX6_markOf_8 rfl rfl ?_
    refine r_iload 4 dX6_markOf_9 rfl ?_
    refine r_iadd dX6_markOf_11 ?_
    refine r_icmp_ge 55 dX6_markOf_12 (by decide) (fun c31 => ?_) (fun c31 => ?_)
    · rw [if_pos c31] at h
      refine r_sub [(5, .int v22)] [5] rfl ?_
      obtain rfl := Option.some.inj h
      exact hX v22 rfl
    · rw [if_neg c31] at h
      refine r_iload_n 1 dX6_markOf_15 rfl rfl ?_
      refine r_istore (i := 7) [(0, .ref (ad_ G 27)), (1, .int v1), (2, .int v2), (3, .int v3), (4, .int v4), (5, .int v22), (6, .int v23), (7, .int v1)] [1, 2, 3, 4, 5, 6, 7, 0] dX6_markOf_16 (by decide) rfl ?_
      have key : ∀ ex, lp (fun w24 : Int32 × Int32 => bX6_markOf_18 S v1 v3 v23 w24.1 w24.2) 5000 (v22, v1) = some ex → (fun u30 : Int32 => Rn G shX 1 yX6_markOf cX6_markOf 8 (some .int) 49 [(0, .ref (ad_ G 27)), (1, .int v1), (2, .int v2), (3, .int v3), (4, .int v4), (5, .int u30), (6, .int v23)] [] S post) ex → Rn G shX 1 yX6_markOf cX6_markOf 8 (some .int) 18 [(0, .ref (ad_ G 27)), (1, .int v1), (2, .int v2), (3, .int v3), (4, .int v4), (5, .int v22), (6, .int v23), (7, .int v1)] [] S post := by
        intro ex hl hx
        refine lp_rule (body := (fun w24 : Int32 × Int32 => bX6_markOf_18 S v1 v3 v23 w24.1 w24.2)) (R := (fun w24 : Int32 × Int32 => Rn G shX 1 yX6_markOf cX6_markOf 8 (some .int) 18 [(0, .ref (ad_ G 27)), (1, .int v1), (2, .int v2), (3, .int v3), (4, .int v4), (5, .int w24.1), (6, .int v23), (7, .int w24.2)] [] S post)) (X := (fun u30 : Int32 => Rn G shX 1 yX6_markOf cX6_markOf 8 (some .int) 49 [(0, .ref (ad_ G 27)), (1, .int v1), (2, .int v2), (3, .int v3), (4, .int v4), (5, .int u30), (6, .int v23)] [] S post)) ?_ 5000 (v22, v1) ex hl hx
        intro w24 oo h hB hX
        obtain ⟨v25, v26⟩ := w24
        replace h : bX6_markOf_18 S v1 v3 v23 v25 v26 = some oo := h
        unfold bX6_markOf_18 at h
        show Rn G shX 1 yX6_markOf cX6_markOf 8 (some .int) 18 [(0, .ref (ad_ G 27)), (1, .int v1), (2, .int v2), (3, .int v3), (4, .int v4), (5, .int v25), (6, .int v23), (7, .int v26)] [] S post
        refine r_iload 7 dX6_markOf_18 rfl ?_
        refine r_iload_n 1 dX6_markOf_20 rfl rfl ?_
        refine r_iload_n 3 dX6_markOf_21 rfl rfl ?_
        refine r_iadd dX6_markOf_22 ?_
        refine r_icmp_ge 49 dX6_markOf_23 (by decide) (fun c29 => ?_) (fun c29 => ?_)
        · rw [if_pos c29] at h
          refine r_sub [(0, .ref (ad_ G 27)), (1, .int v1), (2, .int v2), (3, .int v3), (4, .int v4), (5, .int v25), (6, .int v23)] [0, 1, 2, 3, 4, 5, 6] rfl ?_
          obtain rfl := Option.some.inj h
          exact hX v25 rfl
        · rw [if_neg c29] at h
          refine r_iload 5 dX6_markOf_26 rfl ?_
          refine r_aload_n 0 dX6_markOf_28 rfl rfl ?_
          refine r_getC (k := 27) (j := 4) (r := 29) sX_27 rfl fl_X6_19 dX6_markOf_29 ?_
          refine r_iload 7 dX6_markOf_32 rfl ?_
          refine r_iload 6 dX6_markOf_34 rfl ?_
          obtain ⟨x27, hx27, h⟩ := b1_some h
          refine r_callSNi (rest := [.ref (ad_ G 29), .int v25]) (by omega) (mX11_squareAt hx27) cb_X11_squareAt (by decide) sm_X11_squareAt rfl rfl (Nat.le_of_ble_eq_true rfl) dX6_markOf_36 ?_
          obtain ⟨x28, hx28, h⟩ := b1_some h
          refine r_iaload sX_29 hx28 dX6_markOf_39 ?_
          refine r_iand dX6_markOf_40 ?_
          refine r_istore (i := 5) [(0, .ref (ad_ G 27)), (1, .int v1), (2, .int v2), (3, .int v3), (4, .int v4), (5, .int (v25 &&& x28)), (6, .int v23), (7, .int v26)] [1, 2, 3, 4, 5, 0, 6, 7] dX6_markOf_41 (by decide) rfl ?_
          refine r_iinc (v := v26 + 1) [(0, .ref (ad_ G 27)), (1, .int v1), (2, .int v2), (3, .int v3), (4, .int v4), (5, .int (v25 &&& x28)), (6, .int v23), (7, .int (v26 + 1))] 7 [1, 2, 3, 4, 5, 6, 7, 0] dX6_markOf_43 rfl rfl (by decide) rfl ?_
          refine r_goto 18 dX6_markOf_46 (by decide) ?_
          obtain rfl := Option.some.inj h
          exact hB (v25 &&& x28, v26 + 1) rfl
      obtain ⟨u30, hu30, h⟩ := b1_some h
      refine key u30 hu30 ?_
      show Rn G shX 1 yX6_markOf cX6_markOf 8 (some .int) 49 [(0, .ref (ad_ G 27)), (1, .int v1), (2, .int v2), (3, .int v3), (4, .int v4), (5, .int u30), (6, .int v23)] [] S post
      refine r_iinc (v := v23 + 1) [(0, .ref (ad_ G 27)), (1, .int v1), (2, .int v2), (3, .int v3), (4, .int v4), (5, .int u30), (6, .int (v23 + 1))] 6 [1, 2, 3, 4, 5, 6, 0] dX6_markOf_49 rfl rfl (by decide) rfl ?_
      refine r_goto 6 dX6_markOf_52 (by decide) ?_
      obtain rfl := Option.some.inj h
      exact hB (u30, v23 + 1) rfl
  obtain ⟨u32, hu32, h⟩ := b1_some h
  refine key u32 hu32 ?_
  show Rn G shX 1 yX6_markOf cX6_markOf 8 (some .int) 55 [(5, .int u32)] [] S post
  refine r_iload 0 dX6_markOf_55 rfl ?_
  obtain rfl := Option.some.inj h
  exact r_ireturn rfl dX6_markOf_57 (hp)
theorem mX6_markOf {G : Gx} {S : St} {v1 : Int32} {v2 : Int32} {v3 : Int32} {v4 : Int32} {o : Int32}  (h : fX6_markOf S v1 v2 v3 v4 = some o) : MR_ G shX 1 yX6_markOf cX6_markOf 8 (some .int) [.ref (ad_ G 27), .int v1, .int v2, .int v3, .int v4] S (PI_ o S) := MR_of cb_X6_markOf (Nat.le_of_ble_eq_true rfl) [(0, .ref (ad_ G 27)), (1, .int v1), (2, .int v2), (3, .int v3), (4, .int v4)] rfl (tX6_markOf  h ⟨rfl, rfl⟩)
set_option maxRecDepth 100000 in
set_option maxHeartbeats 4000000 in
theorem tX6_placeOf {G : Gx} {post : Option Value → St → Prop} {S : St} {v0 : Int32} {v1 : Int32} {v2 : Int32} {v3 : Int32} {o : Int32}  (h : fX6_placeOf S v0 v1 v2 v3 = some o) (hp : post (some (.int o)) S) : Rn G shX 1 yX6_placeOf cX6_placeOf 4 (some .int) 0 [(0, .int v0), (1, .int v1), (2, .int v2), (3, .int v3)] [] S post := by
  unfold fX6_placeOf at h
  refine r_iload_n 2 dX6_placeOf_0 rfl rfl ?_
  refine r_iconst (v := 1) dX6_placeOf_1 rfl ?_
  refine r_isub dX6_placeOf_2 ?_
  refine r_sipush (v := 512) dX6_placeOf_3 rfl ?_
  refine r_imul dX6_placeOf_6 ?_
  refine r_iload_n 3 dX6_placeOf_7 rfl rfl ?_
  refine r_iconst (v := 1) dX6_placeOf_8 rfl ?_
  refine r_isub dX6_placeOf_9 ?_
  refine r_bipush (v := 64) dX6_placeOf_10 rfl ?_
  refine r_imul dX6_placeOf_12 ?_
  refine r_iadd dX6_placeOf_13 ?_
  refine r_iload_n 0 dX6_placeOf_14 rfl rfl ?_
  refine r_iload_n 1 dX6_placeOf_15 rfl rfl ?_
  obtain ⟨x21, hx21, h⟩ := b1_some h
  refine r_callSNi (rest := [.int (((v2 - 1) * 512) + ((v3 - 1) * 64))]) (by omega) (mX11_squareAt hx21) cb_X11_squareAt (by decide) sm_X11_squareAt rfl rfl (Nat.le_of_ble_eq_true rfl) dX6_placeOf_16 ?_
  refine r_iadd dX6_placeOf_19 ?_
  obtain rfl := Option.some.inj h
  exact r_ireturn rfl dX6_placeOf_20 (hp)
theorem mX6_placeOf {G : Gx} {S : St} {v0 : Int32} {v1 : Int32} {v2 : Int32} {v3 : Int32} {o : Int32}  (h : fX6_placeOf S v0 v1 v2 v3 = some o) : MR_ G shX 1 yX6_placeOf cX6_placeOf 4 (some .int) [.int v0, .int v1, .int v2, .int v3] S (PI_ o S) := MR_of cb_X6_placeOf (Nat.le_of_ble_eq_true rfl) [(0, .int v0), (1, .int v1), (2, .int v2), (3, .int v3)] rfl (tX6_placeOf  h ⟨rfl, rfl⟩)
set_option maxRecDepth 100000 in
set_option maxHeartbeats 4000000 in
theorem tJ6_bitCount_0f7a4 {G : Gx} {post : Option Value → St → Prop} {S : St} {v0 : Int32} {o : Int32}  (h : fJ6_bitCount_0f7a4 S v0 = some o) (hp : post (some (.int o)) S) : Rn G shX 0 yJ6_bitCount_0f7a4 cJ6_bitCount_0f7a4 1 (some .int) 0 [(0, .int v0)] [] S post := by
  unfold fJ6_bitCount_0f7a4 at h
  refine r_iload_n 0 dJ6_bitCount_0f7a4_0 rfl rfl ?_
  refine r_iload_n 0 dJ6_bitCount_0f7a4_1 rfl rfl ?_
  refine r_iconst (v := 1) dJ6_bitCount_0f7a4_2 rfl ?_
  refine r_iushr dJ6_bitCount_0f7a4_3 ?_
  refine r_ldcw kc_J6_265 dJ6_bitCount_0f7a4_4 ?_
  refine r_iand dJ6_bitCount_0f7a4_7 ?_
  refine r_isub dJ6_bitCount_0f7a4_8 ?_
  obtain ⟨x21, hx21, h⟩ := b1_some h
  rw [Option.some.inj hx21]
  refine r_istore_n (i := 0) [(0, .int x21)] [0] dJ6_bitCount_0f7a4_9 rfl (by decide) rfl ?_
  refine r_iload_n 0 dJ6_bitCount_0f7a4_10 rfl rfl ?_
  refine r_ldcw kc_J6_266 dJ6_bitCount_0f7a4_11 ?_
  refine r_iand dJ6_bitCount_0f7a4_14 ?_
  refine r_iload_n 0 dJ6_bitCount_0f7a4_15 rfl rfl ?_
  refine r_iconst (v := 2) dJ6_bitCount_0f7a4_16 rfl ?_
  refine r_iushr dJ6_bitCount_0f7a4_17 ?_
  refine r_ldcw kc_J6_266 dJ6_bitCount_0f7a4_18 ?_
  refine r_iand dJ6_bitCount_0f7a4_21 ?_
  refine r_iadd dJ6_bitCount_0f7a4_22 ?_
  obtain ⟨x22, hx22, h⟩ := b1_some h
  rw [Option.some.inj hx22]
  refine r_istore_n (i := 0) [(0, .int x22)] [0] dJ6_bitCount_0f7a4_23 rfl (by decide) rfl ?_
  refine r_iload_n 0 dJ6_bitCount_0f7a4_24 rfl rfl ?_
  refine r_iload_n 0 dJ6_bitCount_0f7a4_25 rfl rfl ?_
  refine r_iconst (v := 4) dJ6_bitCount_0f7a4_26 rfl ?_
  refine r_iushr dJ6_bitCount_0f7a4_27 ?_
  refine r_iadd dJ6_bitCount_0f7a4_28 ?_
  refine r_ldcw kc_J6_267 dJ6_bitCount_0f7a4_29 ?_
  refine r_iand dJ6_bitCount_0f7a4_32 ?_
  obtain ⟨x23, hx23, h⟩ := b1_some h
  rw [Option.some.inj hx23]
  refine r_istore_n (i := 0) [(0, .int x23)] [0] dJ6_bitCount_0f7a4_33 rfl (by decide) rfl ?_
  refine r_iload_n 0 dJ6_bitCount_0f7a4_34 rfl rfl ?_
  refine r_iload_n 0 dJ6_bitCount_0f7a4_35 rfl rfl ?_
  refine r_bipush (v := 8) dJ6_bitCount_0f7a4_36 rfl ?_
  refine r_iushr dJ6_bitCount_0f7a4_38 ?_
  refine r_iadd dJ6_bitCount_0f7a4_39 ?_
  obtain ⟨x24, hx24, h⟩ := b1_some h
  rw [Option.some.inj hx24]
  refine r_istore_n (i := 0) [(0, .int x24)] [0] dJ6_bitCount_0f7a4_40 rfl (by decide) rfl ?_
  refine r_iload_n 0 dJ6_bitCount_0f7a4_41 rfl rfl ?_
  refine r_iload_n 0 dJ6_bitCount_0f7a4_42 rfl rfl ?_
  refine r_bipush (v := 16) dJ6_bitCount_0f7a4_43 rfl ?_
  refine r_iushr dJ6_bitCount_0f7a4_45 ?_
  refine r_iadd dJ6_bitCount_0f7a4_46 ?_
  obtain ⟨x25, hx25, h⟩ := b1_some h
  rw [Option.some.inj hx25]
  refine r_istore_n (i := 0) [(0, .int x25)] [0] dJ6_bitCount_0f7a4_47 rfl (by decide) rfl ?_
  refine r_iload_n 0 dJ6_bitCount_0f7a4_48 rfl rfl ?_
  refine r_bipush (v := 63) dJ6_bitCount_0f7a4_49 rfl ?_
  refine r_iand dJ6_bitCount_0f7a4_51 ?_
  obtain rfl := Option.some.inj h
  exact r_ireturn rfl dJ6_bitCount_0f7a4_52 (hp)
theorem mJ6_bitCount_0f7a4 {G : Gx} {S : St} {v0 : Int32} {o : Int32}  (h : fJ6_bitCount_0f7a4 S v0 = some o) : MR_ G shX 0 yJ6_bitCount_0f7a4 cJ6_bitCount_0f7a4 1 (some .int) [.int v0] S (PI_ o S) := MR_of cb_J6_bitCount_0f7a4 (Nat.le_of_ble_eq_true rfl) [(0, .int v0)] rfl (tJ6_bitCount_0f7a4  h ⟨rfl, rfl⟩)
set_option maxRecDepth 100000 in
set_option maxHeartbeats 4000000 in
theorem tX6_brings {G : Gx} {post : Option Value → St → Prop} {S : St} {v1 : Int32} {v2 : Int32} {o : Int32}  (h : fX6_brings S v1 v2 = some o) (hp : post (some (.int o)) S) : Rn G shX 1 yX6_brings cX6_brings 4 (some .int) 0 [(0, .ref (ad_ G 27)), (1, .int v1), (2, .int v2)] [] S post := by
  unfold fX6_brings at h
  refine r_iload_n 2 dX6_brings_0 rfl rfl ?_
  refine r_aload_n 0 dX6_brings_1 rfl rfl ?_
  refine r_getC (k := 27) (j := 1) (r := 21) sX_27 rfl fl_X6_54 dX6_brings_2 ?_
  refine r_getC (k := 21) (j := 3) (r := 25) sX_21 rfl fl_X6_121 dX6_brings_5 ?_
  refine r_iload_n 1 dX6_brings_8 rfl rfl ?_
  obtain ⟨x21, hx21, h⟩ := b1_some h
  refine r_iaload sX_25 hx21 dX6_brings_9 ?_
  refine r_ishr dX6_brings_10 ?_
  refine r_iconst (v := 1) dX6_brings_11 rfl ?_
  refine r_iand dX6_brings_12 ?_
  refine r_iconst (v := 1) dX6_brings_13 rfl ?_
  obtain ⟨w22, hw22, h⟩ := b1_some h
  have hJ : Rn G shX 1 yX6_brings cX6_brings 4 (some .int) 22 [(0, .ref (ad_ G 27)), (1, .int v1), (2, .int v2)] [.int w22] S post := by
    refine r_istore_n (i := 3) [(0, .ref (ad_ G 27)), (1, .int v1), (2, .int v2), (3, .int w22)] [1, 2, 3, 0] dX6_brings_22 rfl (by decide) rfl ?_
    refine r_iload_n 3 dX6_brings_23 rfl rfl ?_
    refine r_if_eq 47 dX6_brings_24 (by decide) (fun c25 => ?_) (fun c25 => ?_)
    · rw [if_pos c25] at h
      refine r_iconst (v := 0) dX6_brings_47 rfl ?_
      obtain rfl := Option.some.inj h
      exact r_ireturn rfl dX6_brings_48 (hp)
    · rw [if_neg c25] at h
      refine r_aload_n 0 dX6_brings_27 rfl rfl ?_
      refine r_getC (k := 27) (j := 1) (r := 21) sX_27 rfl fl_X6_54 dX6_brings_28 ?_
      refine r_getC (k := 21) (j := 2) (r := 24) sX_21 rfl fl_X6_124 dX6_brings_31 ?_
      refine r_iload_n 1 dX6_brings_34 rfl rfl ?_
      obtain ⟨x23, hx23, h⟩ := b1_some h
      refine r_iaload sX_24 hx23 dX6_brings_35 ?_
      refine r_iload_n 2 dX6_brings_36 rfl rfl ?_
      refine r_bipush (v := 10) dX6_brings_37 rfl ?_
      refine r_ishr dX6_brings_39 ?_
      obtain ⟨x24, hx24, h⟩ := b1_some h
      refine r_callSi (rest := [.int x23]) (by omega) (mJ6_bitCount_0f7a4 hx24) cb_J6_bitCount_0f7a4 ml_X6_127 sm_J6_bitCount_0f7a4 rfl rfl (Nat.le_of_ble_eq_true rfl) dX6_brings_40 ?_
      refine r_imul dX6_brings_43 ?_
      refine r_goto 48 dX6_brings_44 (by decide) ?_
      obtain rfl := Option.some.inj h
      exact r_ireturn rfl dX6_brings_48 (hp)
  clear h
  replace h := hw22
  refine r_icmp_ne 21 dX6_brings_14 (by decide) (fun c26 => ?_) (fun c26 => ?_)
  · rw [if_neg c26] at h
    refine r_iconst (v := 0) dX6_brings_21 rfl ?_
    obtain rfl := Option.some.inj h
    exact hJ
  · rw [if_pos c26] at h
    refine r_iconst (v := 1) dX6_brings_17 rfl ?_
    refine r_goto 22 dX6_brings_18 (by decide) ?_
    obtain rfl := Option.some.inj h
    exact hJ
theorem mX6_brings {G : Gx} {S : St} {v1 : Int32} {v2 : Int32} {o : Int32}  (h : fX6_brings S v1 v2 = some o) : MR_ G shX 1 yX6_brings cX6_brings 4 (some .int) [.ref (ad_ G 27), .int v1, .int v2] S (PI_ o S) := MR_of cb_X6_brings (Nat.le_of_ble_eq_true rfl) [(0, .ref (ad_ G 27)), (1, .int v1), (2, .int v2)] rfl (tX6_brings  h ⟨rfl, rfl⟩)
set_option maxRecDepth 100000 in
set_option maxHeartbeats 4000000 in
theorem tX6_bestPipe {G : Gx} {post : Option Value → St → Prop} {S : St} {v1 : Int32} {v2 : Int32} {o : Int32}  (h : fX6_bestPipe S v1 v2 = some o) (hp : post (some (.int o)) S) : Rn G shX 2 yX6_bestPipe cX6_bestPipe 5 (some .int) 0 [(0, .ref (ad_ G 27)), (1, .int v1), (2, .int v2)] [] S post := by
  unfold fX6_bestPipe at h
  refine r_iconst (v := 0) dX6_bestPipe_0 rfl ?_
  refine r_istore_n (i := 3) [(0, .ref (ad_ G 27)), (1, .int v1), (2, .int v2), (3, .int 0)] [1, 2, 3, 0] dX6_bestPipe_1 rfl (by decide) rfl ?_
  refine r_iconst (v := 0) dX6_bestPipe_2 rfl ?_
  refine r_istore (i := 4) [(0, .ref (ad_ G 27)), (1, .int v1), (2, .int v2), (3, .int 0), (4, .int 0)] [1, 2, 3, 4, 0] dX6_bestPipe_3 (by decide) rfl ?_
  have key : ∀ ex, lp (fun w21 : Int32 × Int32 => bX6_bestPipe_5 S v1 v2 w21.1 w21.2) 5000 (0, 0) = some ex → (fun u27 : Int32 => Rn G shX 2 yX6_bestPipe cX6_bestPipe 5 (some .int) 45 [(3, .int u27)] [] S post) ex → Rn G shX 2 yX6_bestPipe cX6_bestPipe 5 (some .int) 5 [(0, .ref (ad_ G 27)), (1, .int v1), (2, .int v2), (3, .int 0), (4, .int 0)] [] S post := by
    intro ex hl hx
    refine lp_rule (body := (fun w21 : Int32 × Int32 => bX6_bestPipe_5 S v1 v2 w21.1 w21.2)) (R := (fun w21 : Int32 × Int32 => Rn G shX 2 yX6_bestPipe cX6_bestPipe 5 (some .int) 5 [(0, .ref (ad_ G 27)), (1, .int v1), (2, .int v2), (3, .int w21.1), (4, .int w21.2)] [] S post)) (X := (fun u27 : Int32 => Rn G shX 2 yX6_bestPipe cX6_bestPipe 5 (some .int) 45 [(3, .int u27)] [] S post)) ?_ 5000 (0, 0) ex hl hx
    intro w21 oo h hB hX
    obtain ⟨v22, v23⟩ := w21
    replace h : bX6_bestPipe_5 S v1 v2 v22 v23 = some oo := h
    unfold bX6_bestPipe_5 at h
    show Rn G shX 2 yX6_bestPipe cX6_bestPipe 5 (some .int) 5 [(0, .ref (ad_ G 27)), (1, .int v1), (2, .int v2), (3, .int v22), (4, .int v23)] [] S post
    refine r_iload 4 dX6_bestPipe_5 rfl ?_
    refine r_aload_n 0 dX6_bestPipe_7 rfl rfl ?_
    refine r_getC (k := 27) (j := 1) (r := 21) sX_27 rfl fl_X6_54 dX6_bestPipe_8 ?_
    refine r_getI (k := 21) (j := 5) sX_21 rfl fl_X6_91 dX6_bestPipe_11 ?_
    refine r_icmp_ge 45 dX6_bestPipe_14 (by decide) (fun c26 => ?_) (fun c26 => ?_)
    · rw [if_pos c26] at h
      refine r_sub [(3, .int v22)] [3] rfl ?_
      obtain rfl := Option.some.inj h
      exact hX v22 rfl
    · rw [if_neg c26] at h
      refine r_iload_n 1 dX6_bestPipe_17 rfl rfl ?_
      refine r_iload 4 dX6_bestPipe_18 rfl ?_
      refine r_ishr dX6_bestPipe_20 ?_
      refine r_iconst (v := 1) dX6_bestPipe_21 rfl ?_
      refine r_iand dX6_bestPipe_22 ?_
      refine r_iconst (v := 1) dX6_bestPipe_23 rfl ?_
      refine r_icmp_ne 39 dX6_bestPipe_24 (by decide) (fun c25 => ?_) (fun c25 => ?_)
      · rw [if_neg c25] at h
        refine r_iinc (v := v23 + 1) [(0, .ref (ad_ G 27)), (1, .int v1), (2, .int v2), (3, .int v22), (4, .int (v23 + 1))] 4 [1, 2, 3, 4, 0] dX6_bestPipe_39 rfl rfl (by decide) rfl ?_
        refine r_goto 5 dX6_bestPipe_42 (by decide) ?_
        obtain rfl := Option.some.inj h
        exact hB (v22, v23 + 1) rfl
      · rw [if_pos c25] at h
        refine r_iload_n 3 dX6_bestPipe_27 rfl rfl ?_
        refine r_aload_n 0 dX6_bestPipe_28 rfl rfl ?_
        refine r_iload 4 dX6_bestPipe_29 rfl ?_
        refine r_iload_n 2 dX6_bestPipe_31 rfl rfl ?_
        obtain ⟨x24, hx24, h⟩ := b1_some h
        refine r_callVi (k := 27) (rest := [.int v22]) (by omega) (mX6_brings hx24) sX_27 rfl rfl cb_X6_brings ml_X6_133 im_X6_brings se_X6_brings rfl rfl (Nat.le_of_ble_eq_true rfl) dX6_bestPipe_32 ?_
        refine r_mmax (rest := []) (by omega) ml_X6_116 (Nat.le_of_ble_eq_true rfl) dX6_bestPipe_35 ?_
        refine r_istore_n (i := 3) [(0, .ref (ad_ G 27)), (1, .int v1), (2, .int v2), (3, .int (mmax_ v22 x24)), (4, .int v23)] [1, 2, 3, 0, 4] dX6_bestPipe_38 rfl (by decide) rfl ?_
        refine r_iinc (v := v23 + 1) [(0, .ref (ad_ G 27)), (1, .int v1), (2, .int v2), (3, .int (mmax_ v22 x24)), (4, .int (v23 + 1))] 4 [1, 2, 3, 4, 0] dX6_bestPipe_39 rfl rfl (by decide) rfl ?_
        refine r_goto 5 dX6_bestPipe_42 (by decide) ?_
        obtain rfl := Option.some.inj h
        exact hB (mmax_ v22 x24, v23 + 1) rfl
  obtain ⟨u27, hu27, h⟩ := b1_some h
  refine key u27 hu27 ?_
  show Rn G shX 2 yX6_bestPipe cX6_bestPipe 5 (some .int) 45 [(3, .int u27)] [] S post
  refine r_iload_n 0 dX6_bestPipe_45 rfl rfl ?_
  obtain rfl := Option.some.inj h
  exact r_ireturn rfl dX6_bestPipe_46 (hp)
theorem mX6_bestPipe {G : Gx} {S : St} {v1 : Int32} {v2 : Int32} {o : Int32}  (h : fX6_bestPipe S v1 v2 = some o) : MR_ G shX 2 yX6_bestPipe cX6_bestPipe 5 (some .int) [.ref (ad_ G 27), .int v1, .int v2] S (PI_ o S) := MR_of cb_X6_bestPipe (Nat.le_of_ble_eq_true rfl) [(0, .ref (ad_ G 27)), (1, .int v1), (2, .int v2)] rfl (tX6_bestPipe  h ⟨rfl, rfl⟩)
set_option maxRecDepth 100000 in
set_option maxHeartbeats 4000000 in
theorem tX6_bestDown {G : Gx} {post : Option Value → St → Prop} {S : St} {v1 : Int32} {v2 : Int32} {o : Int32}  (h : fX6_bestDown S v1 v2 = some o) (hp : post (some (.int o)) S) : Rn G shX 0 yX6_bestDown cX6_bestDown 8 (some .int) 0 [(0, .ref (ad_ G 27)), (1, .int v1), (2, .int v2)] [] S post := by
  unfold fX6_bestDown at h
  refine r_iconst (v := 0) dX6_bestDown_0 rfl ?_
  refine r_istore_n (i := 3) [(0, .ref (ad_ G 27)), (1, .int v1), (2, .int v2), (3, .int 0)] [1, 2, 3, 0] dX6_bestDown_1 rfl (by decide) rfl ?_
  refine r_iload_n 1 dX6_bestDown_2 rfl rfl ?_
  refine r_iload_n 2 dX6_bestDown_3 rfl rfl ?_
  refine r_iconst (v := 1) dX6_bestDown_4 rfl ?_
  refine r_isub dX6_bestDown_5 ?_
  refine r_sipush (v := 512) dX6_bestDown_6 rfl ?_
  refine r_imul dX6_bestDown_9 ?_
  refine r_isub dX6_bestDown_10 ?_
  refine r_istore (i := 4) [(0, .ref (ad_ G 27)), (1, .int v1), (2, .int v2), (3, .int 0), (4, .int (v1 - ((v2 - 1) * 512)))] [1, 2, 3, 4, 0] dX6_bestDown_11 (by decide) rfl ?_
  refine r_iload_n 1 dX6_bestDown_13 rfl rfl ?_
  refine r_sipush (v := 512) dX6_bestDown_14 rfl ?_
  refine r_isub dX6_bestDown_17 ?_
  refine r_iconst (v := 1) dX6_bestDown_18 rfl ?_
  refine r_iadd dX6_bestDown_19 ?_
  refine r_istore (i := 5) [(0, .ref (ad_ G 27)), (1, .int v1), (2, .int v2), (3, .int 0), (4, .int (v1 - ((v2 - 1) * 512))), (5, .int ((v1 - 512) + 1))] [1, 2, 3, 4, 5, 0] dX6_bestDown_20 (by decide) rfl ?_
  refine r_iconst (v := 1) dX6_bestDown_22 rfl ?_
  refine r_istore (i := 6) [(0, .ref (ad_ G 27)), (1, .int v1), (2, .int v2), (3, .int 0), (4, .int (v1 - ((v2 - 1) * 512))), (5, .int ((v1 - 512) + 1)), (6, .int 1)] [1, 2, 3, 4, 5, 6, 0] dX6_bestDown_23 (by decide) rfl ?_
  refine r_sub [(0, .ref (ad_ G 27)), (2, .int v2), (3, .int 0), (4, .int (v1 - ((v2 - 1) * 512))), (5, .int ((v1 - 512) + 1)), (6, .int 1)] [0, 2, 3, 4, 5, 6] rfl ?_
  have key : ∀ ex, lp (fun w21 : Int32 × Int32 × Int32 × Int32 => bX6_bestDown_25 S v2 w21.1 w21.2.1 w21.2.2.1 w21.2.2.2) 5000 (0, v1 - ((v2 - 1) * 512), (v1 - 512) + 1, 1) = some ex → (fun u30 : Int32 => Rn G shX 0 yX6_bestDown cX6_bestDown 8 (some .int) 79 [(3, .int u30)] [] S post) ex → Rn G shX 0 yX6_bestDown cX6_bestDown 8 (some .int) 25 [(0, .ref (ad_ G 27)), (2, .int v2), (3, .int 0), (4, .int (v1 - ((v2 - 1) * 512))), (5, .int ((v1 - 512) + 1)), (6, .int 1)] [] S post := by
    intro ex hl hx
    refine lp_rule (body := (fun w21 : Int32 × Int32 × Int32 × Int32 => bX6_bestDown_25 S v2 w21.1 w21.2.1 w21.2.2.1 w21.2.2.2)) (R := (fun w21 : Int32 × Int32 × Int32 × Int32 => Rn G shX 0 yX6_bestDown cX6_bestDown 8 (some .int) 25 [(0, .ref (ad_ G 27)), (2, .int v2), (3, .int w21.1), (4, .int w21.2.1), (5, .int w21.2.2.1), (6, .int w21.2.2.2)] [] S post)) (X := (fun u30 : Int32 => Rn G shX 0 yX6_bestDown cX6_bestDown 8 (some .int) 79 [(3, .int u30)] [] S post)) ?_ 5000 (0, v1 - ((v2 - 1) * 512), (v1 - 512) + 1, 1) ex hl hx
    intro w21 oo h hB hX
    obtain ⟨v22, v23, v24, v25⟩ := w21
    replace h : bX6_bestDown_25 S v2 v22 v23 v24 v25 = some oo := h
    unfold bX6_bestDown_25 at h
    show Rn G shX 0 yX6_bestDown cX6_bestDown 8 (some .int) 25 [(0, .ref (ad_ G 27)), (2, .int v2), (3, .int v22), (4, .int v23), (5, .int v24), (6, .int v25)] [] S post
    refine r_iload 5 dX6_bestDown_25 rfl ?_
    refine r_iload_n 1 dX6_bestDown_27 rfl rfl ?_
    refine r_icmp_ge 79 dX6_bestDown_28 (by decide) (fun c29 => ?_) (fun c29 => ?_)
    · rw [if_pos c29] at h
      refine r_sub [(3, .int v22)] [2] rfl ?_
      obtain rfl := Option.some.inj h
      exact hX v22 rfl
    · rw [if_neg c29] at h
      refine r_aload_n 0 dX6_bestDown_31 rfl rfl ?_
      refine r_getC (k := 27) (j := 8) (r := 33) sX_27 rfl fl_X6_32 dX6_bestDown_32 ?_
      refine r_iload 3 dX6_bestDown_35 rfl ?_
      obtain ⟨x26, hx26, h⟩ := b1_some h
      refine r_iaload sX_33 hx26 dX6_bestDown_37 ?_
      refine r_aload_n 0 dX6_bestDown_38 rfl rfl ?_
      refine r_getC (k := 27) (j := 8) (r := 33) sX_27 rfl fl_X6_32 dX6_bestDown_39 ?_
      refine r_iload 4 dX6_bestDown_42 rfl ?_
      obtain ⟨x27, hx27, h⟩ := b1_some h
      refine r_iaload sX_33 hx27 dX6_bestDown_44 ?_
      refine r_iadd dX6_bestDown_45 ?_
      refine r_istore (i := 7) [(0, .ref (ad_ G 27)), (2, .int v2), (3, .int v22), (4, .int v23), (5, .int v24), (6, .int v25), (7, .int (x26 + x27))] [1, 2, 3, 4, 5, 6, 0] dX6_bestDown_46 (by decide) rfl ?_
      refine r_iload 6 dX6_bestDown_48 rfl ?_
      refine r_iload_n 2 dX6_bestDown_50 rfl rfl ?_
      refine r_icmp_le 59 dX6_bestDown_51 (by decide) (fun c28 => ?_) (fun c28 => ?_)
      · rw [if_pos c28] at h
        refine r_iload_n 2 dX6_bestDown_59 rfl rfl ?_
        refine r_istore_n (i := 3) [(0, .ref (ad_ G 27)), (2, .int v2), (3, .int v22), (4, .int v23), (5, .int v24), (6, .int v25), (7, .int (x26 + x27))] [1, 2, 0, 3, 4, 5, 6] dX6_bestDown_60 rfl (by decide) rfl ?_
        refine r_iincw (v := v23 + 512) [(0, .ref (ad_ G 27)), (2, .int v2), (3, .int v22), (4, .int (v23 + 512)), (5, .int v24), (6, .int v25), (7, .int (x26 + x27))] 3 [1, 2, 3, 0, 4, 5, 6] dX6_bestDown_61 rfl rfl (by decide) rfl ?_
        refine r_iincw (v := v24 + (-511)) [(0, .ref (ad_ G 27)), (2, .int v2), (3, .int v22), (4, .int (v23 + 512)), (5, .int (v24 + (-511))), (6, .int v25), (7, .int (x26 + x27))] 4 [1, 2, 3, 4, 0, 5, 6] dX6_bestDown_67 rfl rfl (by decide) rfl ?_
        refine r_iinc (v := v25 + 1) [(0, .ref (ad_ G 27)), (2, .int v2), (3, .int v22), (4, .int (v23 + 512)), (5, .int (v24 + (-511))), (6, .int (v25 + 1)), (7, .int (x26 + x27))] 5 [1, 2, 3, 4, 5, 0, 6] dX6_bestDown_73 rfl rfl (by decide) rfl ?_
        refine r_goto 25 dX6_bestDown_76 (by decide) ?_
        refine r_sub [(0, .ref (ad_ G 27)), (2, .int v2), (3, .int v22), (4, .int (v23 + 512)), (5, .int (v24 + (-511))), (6, .int (v25 + 1))] [0, 1, 2, 3, 4, 5] rfl ?_
        obtain rfl := Option.some.inj h
        exact hB (v22, v23 + 512, v24 + (-511), v25 + 1) rfl
      · rw [if_neg c28] at h
        refine r_iload 6 dX6_bestDown_54 rfl ?_
        refine r_goto 60 dX6_bestDown_56 (by decide) ?_
        refine r_istore_n (i := 3) [(0, .ref (ad_ G 27)), (2, .int v2), (3, .int (x26 + x27)), (4, .int v23), (5, .int v24), (6, .int v25), (7, .int (x26 + x27))] [1, 2, 0, 3, 4, 5, 6] dX6_bestDown_60 rfl (by decide) rfl ?_
        refine r_iincw (v := v23 + 512) [(0, .ref (ad_ G 27)), (2, .int v2), (3, .int (x26 + x27)), (4, .int (v23 + 512)), (5, .int v24), (6, .int v25), (7, .int (x26 + x27))] 3 [1, 2, 3, 0, 4, 5, 6] dX6_bestDown_61 rfl rfl (by decide) rfl ?_
        refine r_iincw (v := v24 + (-511)) [(0, .ref (ad_ G 27)), (2, .int v2), (3, .int (x26 + x27)), (4, .int (v23 + 512)), (5, .int (v24 + (-511))), (6, .int v25), (7, .int (x26 + x27))] 4 [1, 2, 3, 4, 0, 5, 6] dX6_bestDown_67 rfl rfl (by decide) rfl ?_
        refine r_iinc (v := v25 + 1) [(0, .ref (ad_ G 27)), (2, .int v2), (3, .int (x26 + x27)), (4, .int (v23 + 512)), (5, .int (v24 + (-511))), (6, .int (v25 + 1)), (7, .int (x26 + x27))] 5 [1, 2, 3, 4, 5, 0, 6] dX6_bestDown_73 rfl rfl (by decide) rfl ?_
        refine r_goto 25 dX6_bestDown_76 (by decide) ?_
        refine r_sub [(0, .ref (ad_ G 27)), (2, .int v2), (3, .int (x26 + x27)), (4, .int (v23 + 512)), (5, .int (v24 + (-511))), (6, .int (v25 + 1))] [0, 1, 2, 3, 4, 5] rfl ?_
        obtain rfl := Option.some.inj h
        exact hB (x26 + x27, v23 + 512, v24 + (-511), v25 + 1) rfl
  obtain ⟨u30, hu30, h⟩ := b1_some h
  refine key u30 hu30 ?_
  show Rn G shX 0 yX6_bestDown cX6_bestDown 8 (some .int) 79 [(3, .int u30)] [] S post
  refine r_iload_n 0 dX6_bestDown_79 rfl rfl ?_
  obtain rfl := Option.some.inj h
  exact r_ireturn rfl dX6_bestDown_80 (hp)
theorem mX6_bestDown {G : Gx} {S : St} {v1 : Int32} {v2 : Int32} {o : Int32}  (h : fX6_bestDown S v1 v2 = some o) : MR_ G shX 0 yX6_bestDown cX6_bestDown 8 (some .int) [.ref (ad_ G 27), .int v1, .int v2] S (PI_ o S) := MR_of cb_X6_bestDown (Nat.le_of_ble_eq_true rfl) [(0, .ref (ad_ G 27)), (1, .int v1), (2, .int v2)] rfl (tX6_bestDown  h ⟨rfl, rfl⟩)
set_option maxRecDepth 100000 in
set_option maxHeartbeats 4000000 in
theorem tX6_bestAcross {G : Gx} {post : Option Value → St → Prop} {S : St} {v1 : Int32} {v2 : Int32} {o : Int32}  (h : fX6_bestAcross S v1 v2 = some o) (hp : post (some (.int o)) S) : Rn G shX 0 yX6_bestAcross cX6_bestAcross 8 (some .int) 0 [(0, .ref (ad_ G 27)), (1, .int v1), (2, .int v2)] [] S post := by
  unfold fX6_bestAcross at h
  refine r_iconst (v := 0) dX6_bestAcross_0 rfl ?_
  refine r_istore_n (i := 3) [(0, .ref (ad_ G 27)), (1, .int v1), (2, .int v2), (3, .int 0)] [1, 2, 3, 0] dX6_bestAcross_1 rfl (by decide) rfl ?_
  refine r_iload_n 1 dX6_bestAcross_2 rfl rfl ?_
  refine r_iload_n 2 dX6_bestAcross_3 rfl rfl ?_
  refine r_iconst (v := 1) dX6_bestAcross_4 rfl ?_
  refine r_isub dX6_bestAcross_5 ?_
  refine r_bipush (v := 64) dX6_bestAcross_6 rfl ?_
  refine r_imul dX6_bestAcross_8 ?_
  refine r_isub dX6_bestAcross_9 ?_
  refine r_istore (i := 4) [(0, .ref (ad_ G 27)), (1, .int v1), (2, .int v2), (3, .int 0), (4, .int (v1 - ((v2 - 1) * 64)))] [1, 2, 3, 4, 0] dX6_bestAcross_10 (by decide) rfl ?_
  refine r_iload_n 1 dX6_bestAcross_12 rfl rfl ?_
  refine r_bipush (v := 64) dX6_bestAcross_13 rfl ?_
  refine r_isub dX6_bestAcross_15 ?_
  refine r_bipush (v := 8) dX6_bestAcross_16 rfl ?_
  refine r_iadd dX6_bestAcross_18 ?_
  refine r_istore (i := 5) [(0, .ref (ad_ G 27)), (1, .int v1), (2, .int v2), (3, .int 0), (4, .int (v1 - ((v2 - 1) * 64))), (5, .int ((v1 - 64) + 8))] [1, 2, 3, 4, 5, 0] dX6_bestAcross_19 (by decide) rfl ?_
  refine r_iconst (v := 1) dX6_bestAcross_21 rfl ?_
  refine r_istore (i := 6) [(0, .ref (ad_ G 27)), (1, .int v1), (2, .int v2), (3, .int 0), (4, .int (v1 - ((v2 - 1) * 64))), (5, .int ((v1 - 64) + 8)), (6, .int 1)] [1, 2, 3, 4, 5, 6, 0] dX6_bestAcross_22 (by decide) rfl ?_
  refine r_sub [(0, .ref (ad_ G 27)), (2, .int v2), (3, .int 0), (4, .int (v1 - ((v2 - 1) * 64))), (5, .int ((v1 - 64) + 8)), (6, .int 1)] [0, 2, 3, 4, 5, 6] rfl ?_
  have key : ∀ ex, lp (fun w21 : Int32 × Int32 × Int32 × Int32 => bX6_bestAcross_24 S v2 w21.1 w21.2.1 w21.2.2.1 w21.2.2.2) 5000 (0, v1 - ((v2 - 1) * 64), (v1 - 64) + 8, 1) = some ex → (fun u30 : Int32 => Rn G shX 0 yX6_bestAcross cX6_bestAcross 8 (some .int) 72 [(3, .int u30)] [] S post) ex → Rn G shX 0 yX6_bestAcross cX6_bestAcross 8 (some .int) 24 [(0, .ref (ad_ G 27)), (2, .int v2), (3, .int 0), (4, .int (v1 - ((v2 - 1) * 64))), (5, .int ((v1 - 64) + 8)), (6, .int 1)] [] S post := by
    intro ex hl hx
    refine lp_rule (body := (fun w21 : Int32 × Int32 × Int32 × Int32 => bX6_bestAcross_24 S v2 w21.1 w21.2.1 w21.2.2.1 w21.2.2.2)) (R := (fun w21 : Int32 × Int32 × Int32 × Int32 => Rn G shX 0 yX6_bestAcross cX6_bestAcross 8 (some .int) 24 [(0, .ref (ad_ G 27)), (2, .int v2), (3, .int w21.1), (4, .int w21.2.1), (5, .int w21.2.2.1), (6, .int w21.2.2.2)] [] S post)) (X := (fun u30 : Int32 => Rn G shX 0 yX6_bestAcross cX6_bestAcross 8 (some .int) 72 [(3, .int u30)] [] S post)) ?_ 5000 (0, v1 - ((v2 - 1) * 64), (v1 - 64) + 8, 1) ex hl hx
    intro w21 oo h hB hX
    obtain ⟨v22, v23, v24, v25⟩ := w21
    replace h : bX6_bestAcross_24 S v2 v22 v23 v24 v25 = some oo := h
    unfold bX6_bestAcross_24 at h
    show Rn G shX 0 yX6_bestAcross cX6_bestAcross 8 (some .int) 24 [(0, .ref (ad_ G 27)), (2, .int v2), (3, .int v22), (4, .int v23), (5, .int v24), (6, .int v25)] [] S post
    refine r_iload 5 dX6_bestAcross_24 rfl ?_
    refine r_iload_n 1 dX6_bestAcross_26 rfl rfl ?_
    refine r_icmp_ge 72 dX6_bestAcross_27 (by decide) (fun c29 => ?_) (fun c29 => ?_)
    · rw [if_pos c29] at h
      refine r_sub [(3, .int v22)] [2] rfl ?_
      obtain rfl := Option.some.inj h
      exact hX v22 rfl
    · rw [if_neg c29] at h
      refine r_aload_n 0 dX6_bestAcross_30 rfl rfl ?_
      refine r_getC (k := 27) (j := 8) (r := 33) sX_27 rfl fl_X6_32 dX6_bestAcross_31 ?_
      refine r_iload 3 dX6_bestAcross_34 rfl ?_
      obtain ⟨x26, hx26, h⟩ := b1_some h
      refine r_iaload sX_33 hx26 dX6_bestAcross_36 ?_
      refine r_aload_n 0 dX6_bestAcross_37 rfl rfl ?_
      refine r_getC (k := 27) (j := 8) (r := 33) sX_27 rfl fl_X6_32 dX6_bestAcross_38 ?_
      refine r_iload 4 dX6_bestAcross_41 rfl ?_
      obtain ⟨x27, hx27, h⟩ := b1_some h
      refine r_iaload sX_33 hx27 dX6_bestAcross_43 ?_
      refine r_iadd dX6_bestAcross_44 ?_
      refine r_istore (i := 7) [(0, .ref (ad_ G 27)), (2, .int v2), (3, .int v22), (4, .int v23), (5, .int v24), (6, .int v25), (7, .int (x26 + x27))] [1, 2, 3, 4, 5, 6, 0] dX6_bestAcross_45 (by decide) rfl ?_
      refine r_iload 6 dX6_bestAcross_47 rfl ?_
      refine r_iload_n 2 dX6_bestAcross_49 rfl rfl ?_
      refine r_icmp_le 58 dX6_bestAcross_50 (by decide) (fun c28 => ?_) (fun c28 => ?_)
      · rw [if_pos c28] at h
        refine r_iload_n 2 dX6_bestAcross_58 rfl rfl ?_
        refine r_istore_n (i := 3) [(0, .ref (ad_ G 27)), (2, .int v2), (3, .int v22), (4, .int v23), (5, .int v24), (6, .int v25), (7, .int (x26 + x27))] [1, 2, 0, 3, 4, 5, 6] dX6_bestAcross_59 rfl (by decide) rfl ?_
        refine r_iinc (v := v23 + 64) [(0, .ref (ad_ G 27)), (2, .int v2), (3, .int v22), (4, .int (v23 + 64)), (5, .int v24), (6, .int v25), (7, .int (x26 + x27))] 3 [1, 2, 3, 0, 4, 5, 6] dX6_bestAcross_60 rfl rfl (by decide) rfl ?_
        refine r_iinc (v := v24 + (-56)) [(0, .ref (ad_ G 27)), (2, .int v2), (3, .int v22), (4, .int (v23 + 64)), (5, .int (v24 + (-56))), (6, .int v25), (7, .int (x26 + x27))] 4 [1, 2, 3, 4, 0, 5, 6] dX6_bestAcross_63 rfl rfl (by decide) rfl ?_
        refine r_iinc (v := v25 + 1) [(0, .ref (ad_ G 27)), (2, .int v2), (3, .int v22), (4, .int (v23 + 64)), (5, .int (v24 + (-56))), (6, .int (v25 + 1)), (7, .int (x26 + x27))] 5 [1, 2, 3, 4, 5, 0, 6] dX6_bestAcross_66 rfl rfl (by decide) rfl ?_
        refine r_goto 24 dX6_bestAcross_69 (by decide) ?_
        refine r_sub [(0, .ref (ad_ G 27)), (2, .int v2), (3, .int v22), (4, .int (v23 + 64)), (5, .int (v24 + (-56))), (6, .int (v25 + 1))] [0, 1, 2, 3, 4, 5] rfl ?_
        obtain rfl := Option.some.inj h
        exact hB (v22, v23 + 64, v24 + (-56), v25 + 1) rfl
      · rw [if_neg c28] at h
        refine r_iload 6 dX6_bestAcross_53 rfl ?_
        refine r_goto 59 dX6_bestAcross_55 (by decide) ?_
        refine r_istore_n (i := 3) [(0, .ref (ad_ G 27)), (2, .int v2), (3, .int (x26 + x27)), (4, .int v23), (5, .int v24), (6, .int v25), (7, .int (x26 + x27))] [1, 2, 0, 3, 4, 5, 6] dX6_bestAcross_59 rfl (by decide) rfl ?_
        refine r_iinc (v := v23 + 64) [(0, .ref (ad_ G 27)), (2, .int v2), (3, .int (x26 + x27)), (4, .int (v23 + 64)), (5, .int v24), (6, .int v25), (7, .int (x26 + x27))] 3 [1, 2, 3, 0, 4, 5, 6] dX6_bestAcross_60 rfl rfl (by decide) rfl ?_
        refine r_iinc (v := v24 + (-56)) [(0, .ref (ad_ G 27)), (2, .int v2), (3, .int (x26 + x27)), (4, .int (v23 + 64)), (5, .int (v24 + (-56))), (6, .int v25), (7, .int (x26 + x27))] 4 [1, 2, 3, 4, 0, 5, 6] dX6_bestAcross_63 rfl rfl (by decide) rfl ?_
        refine r_iinc (v := v25 + 1) [(0, .ref (ad_ G 27)), (2, .int v2), (3, .int (x26 + x27)), (4, .int (v23 + 64)), (5, .int (v24 + (-56))), (6, .int (v25 + 1)), (7, .int (x26 + x27))] 5 [1, 2, 3, 4, 5, 0, 6] dX6_bestAcross_66 rfl rfl (by decide) rfl ?_
        refine r_goto 24 dX6_bestAcross_69 (by decide) ?_
        refine r_sub [(0, .ref (ad_ G 27)), (2, .int v2), (3, .int (x26 + x27)), (4, .int (v23 + 64)), (5, .int (v24 + (-56))), (6, .int (v25 + 1))] [0, 1, 2, 3, 4, 5] rfl ?_
        obtain rfl := Option.some.inj h
        exact hB (x26 + x27, v23 + 64, v24 + (-56), v25 + 1) rfl
  obtain ⟨u30, hu30, h⟩ := b1_some h
  refine key u30 hu30 ?_
  show Rn G shX 0 yX6_bestAcross cX6_bestAcross 8 (some .int) 72 [(3, .int u30)] [] S post
  refine r_iload_n 0 dX6_bestAcross_72 rfl rfl ?_
  obtain rfl := Option.some.inj h
  exact r_ireturn rfl dX6_bestAcross_73 (hp)
theorem mX6_bestAcross {G : Gx} {S : St} {v1 : Int32} {v2 : Int32} {o : Int32}  (h : fX6_bestAcross S v1 v2 = some o) : MR_ G shX 0 yX6_bestAcross cX6_bestAcross 8 (some .int) [.ref (ad_ G 27), .int v1, .int v2] S (PI_ o S) := MR_of cb_X6_bestAcross (Nat.le_of_ble_eq_true rfl) [(0, .ref (ad_ G 27)), (1, .int v1), (2, .int v2)] rfl (tX6_bestAcross  h ⟨rfl, rfl⟩)
set_option maxRecDepth 100000 in
set_option maxHeartbeats 4000000 in
theorem tX6_weighBand {G : Gx} {post : Option Value → St → Prop} {S : St} {v1 : Int32} {v2 : Int32} {v3 : Int32} {v4 : Int32} {o : St}  (h : fX6_weighBand S v1 v2 v3 v4 = some o) (hp : post none o) : Rn G shX 3 yX6_weighBand cX6_weighBand 10 none 0 [(0, .ref (ad_ G 27)), (1, .int v1), (2, .int v2), (3, .int v3), (4, .int v4)] [] S post := by
  unfold fX6_weighBand at h
  refine r_iload_n 1 dX6_weighBand_0 rfl rfl ?_
  refine r_istore (i := 5) [(0, .ref (ad_ G 27)), (1, .int v1), (2, .int v2), (3, .int v3), (4, .int v4), (5, .int v1)] [1, 2, 3, 4, 5, 0] dX6_weighBand_1 (by decide) rfl ?_
  have key : ∀ ex, lp (fun w21 : Int32 × St => bX6_weighBand_3 v1 v2 v3 v4 w21.1 w21.2) 5000 (v1, S) = some ex → (fun u29 : St => Rn G shX 3 yX6_weighBand cX6_weighBand 10 none 48 [(0, .ref (ad_ G 27)), (1, .int v1), (2, .int v2), (3, .int v3), (4, .int v4)] [] u29 post) ex → Rn G shX 3 yX6_weighBand cX6_weighBand 10 none 3 [(0, .ref (ad_ G 27)), (1, .int v1), (2, .int v2), (3, .int v3), (4, .int v4), (5, .int v1)] [] S post := by
    intro ex hl hx
    refine lp_rule (body := (fun w21 : Int32 × St => bX6_weighBand_3 v1 v2 v3 v4 w21.1 w21.2)) (R := (fun w21 : Int32 × St => Rn G shX 3 yX6_weighBand cX6_weighBand 10 none 3 [(0, .ref (ad_ G 27)), (1, .int v1), (2, .int v2), (3, .int v3), (4, .int v4), (5, .int w21.1)] [] w21.2 post)) (X := (fun u29 : St => Rn G shX 3 yX6_weighBand cX6_weighBand 10 none 48 [(0, .ref (ad_ G 27)), (1, .int v1), (2, .int v2), (3, .int v3), (4, .int v4)] [] u29 post)) ?_ 5000 (v1, S) ex hl hx
    intro w21 oo h hB hX
    obtain ⟨v22, S23⟩ := w21
    replace h : bX6_weighBand_3 v1 v2 v3 v4 v22 S23 = some oo := h
    unfold bX6_weighBand_3 at h
    show Rn G shX 3 yX6_weighBand cX6_weighBand 10 none 3 [(0, .ref (ad_ G 27)), (1, .int v1), (2, .int v2), (3, .int v3), (4, .int v4), (5, .int v22)] [] S23 post
    refine r_iload 5 dX6_weighBand_3 rfl ?_
    refine r_iload_n 1 dX6_weighBand_5 rfl rfl ?_
    refine r_iload_n 2 dX6_weighBand_6 rfl rfl ?_
    refine r_iadd dX6_weighBand_7 ?_
    refine r_icmp_ge 48 dX6_weighBand_8 (by decide) (fun c28 => ?_) (fun c28 => ?_)
    · rw [if_pos c28] at h
      refine r_sub [(0, .ref (ad_ G 27)), (1, .int v1), (2, .int v2), (3, .int v3), (4, .int v4)] [0, 1, 2, 3, 4] rfl ?_
      obtain rfl := Option.some.inj h
      exact hX S23 rfl
    · rw [if_neg c28] at h
      refine r_aload_n 0 dX6_weighBand_11 rfl rfl ?_
      refine r_getC (k := 27) (j := 6) (r := 31) sX_27 rfl fl_X6_26 dX6_weighBand_12 ?_
      refine r_iload 5 dX6_weighBand_15 rfl ?_
      refine r_aload_n 0 dX6_weighBand_17 rfl rfl ?_
      refine r_iload 5 dX6_weighBand_18 rfl ?_
      refine r_iload_n 3 dX6_weighBand_20 rfl rfl ?_
      refine r_iconst (v := 1) dX6_weighBand_21 rfl ?_
      refine r_iload 4 dX6_weighBand_22 rfl ?_
      obtain ⟨x24, hx24, h⟩ := b1_some h
      refine r_callVi (k := 27) (rest := [.int v22, .ref (ad_ G 31)]) (by omega) (mX6_markOf hx24) sX_27 rfl rfl cb_X6_markOf ml_X6_104 im_X6_markOf se_X6_markOf rfl rfl (Nat.le_of_ble_eq_true rfl) dX6_weighBand_24 ?_
      obtain ⟨S25, hS25, h⟩ := b1_some h
      refine r_iastore sX_31 hS25 dX6_weighBand_27 ?_
      refine r_aload_n 0 dX6_weighBand_28 rfl rfl ?_
      refine r_getC (k := 27) (j := 7) (r := 32) sX_27 rfl fl_X6_29 dX6_weighBand_29 ?_
      refine r_iload 5 dX6_weighBand_32 rfl ?_
      refine r_aload_n 0 dX6_weighBand_34 rfl rfl ?_
      refine r_getC (k := 27) (j := 6) (r := 31) sX_27 rfl fl_X6_26 dX6_weighBand_35 ?_
      refine r_iload 5 dX6_weighBand_38 rfl ?_
      obtain ⟨x26, hx26, h⟩ := b1_some h
      refine r_iaload sX_31 hx26 dX6_weighBand_40 ?_
      obtain ⟨S27, hS27, h⟩ := b1_some h
      refine r_iastore sX_32 hS27 dX6_weighBand_41 ?_
      refine r_iinc (v := v22 + 1) [(0, .ref (ad_ G 27)), (1, .int v1), (2, .int v2), (3, .int v3), (4, .int v4), (5, .int (v22 + 1))] 5 [1, 2, 3, 4, 5, 0] dX6_weighBand_42 rfl rfl (by decide) rfl ?_
      refine r_goto 3 dX6_weighBand_45 (by decide) ?_
      obtain rfl := Option.some.inj h
      exact hB (v22 + 1, S27) rfl
  obtain ⟨u29, hu29, h⟩ := b1_some h
  refine key u29 hu29 ?_
  show Rn G shX 3 yX6_weighBand cX6_weighBand 10 none 48 [(0, .ref (ad_ G 27)), (1, .int v1), (2, .int v2), (3, .int v3), (4, .int v4)] [] u29 post
  refine r_iconst (v := 1) dX6_weighBand_48 rfl ?_
  refine r_istore (i := 5) [(0, .ref (ad_ G 27)), (1, .int v1), (2, .int v2), (3, .int v3), (4, .int v4), (5, .int 1)] [1, 2, 3, 4, 5, 0] dX6_weighBand_49 (by decide) rfl ?_
  have key : ∀ ex, lp (fun w30 : Int32 × St => bX6_weighBand_51 v1 v2 v3 v4 w30.1 w30.2) 5000 (1, u29) = some ex → (fun u53 : St => Rn G shX 3 yX6_weighBand cX6_weighBand 10 none 192 [] [] u53 post) ex → Rn G shX 3 yX6_weighBand cX6_weighBand 10 none 51 [(0, .ref (ad_ G 27)), (1, .int v1), (2, .int v2), (3, .int v3), (4, .int v4), (5, .int 1)] [] u29 post := by
    intro ex hl hx
    refine lp_rule (body := (fun w30 : Int32 × St => bX6_weighBand_51 v1 v2 v3 v4 w30.1 w30.2)) (R := (fun w30 : Int32 × St => Rn G shX 3 yX6_weighBand cX6_weighBand 10 none 51 [(0, .ref (ad_ G 27)), (1, .int v1), (2, .int v2), (3, .int v3), (4, .int v4), (5, .int w30.1)] [] w30.2 post)) (X := (fun u53 : St => Rn G shX 3 yX6_weighBand cX6_weighBand 10 none 192 [] [] u53 post)) ?_ 5000 (1, u29) ex hl hx
    intro w30 oo h hB hX
    obtain ⟨v31, S32⟩ := w30
    replace h : bX6_weighBand_51 v1 v2 v3 v4 v31 S32 = some oo := h
    unfold bX6_weighBand_51 at h
    show Rn G shX 3 yX6_weighBand cX6_weighBand 10 none 51 [(0, .ref (ad_ G 27)), (1, .int v1), (2, .int v2), (3, .int v3), (4, .int v4), (5, .int v31)] [] S32 post
    refine r_iload 5 dX6_weighBand_51 rfl ?_
    refine r_iload_n 2 dX6_weighBand_53 rfl rfl ?_
    refine r_icmp_gt 192 dX6_weighBand_54 (by decide) (fun c52 => ?_) (fun c52 => ?_)
    · rw [if_pos c52] at h
      refine r_sub [] [] rfl ?_
      obtain rfl := Option.some.inj h
      exact hX S32 rfl
    · rw [if_neg c52] at h
      refine r_aload_n 0 dX6_weighBand_57 rfl rfl ?_
      refine r_getC (k := 27) (j := 5) (r := 30) sX_27 rfl fl_X6_23 dX6_weighBand_58 ?_
      refine r_iload 5 dX6_weighBand_61 rfl ?_
      refine r_iconst (v := 1) dX6_weighBand_63 rfl ?_
      refine r_isub dX6_weighBand_64 ?_
      refine r_iload 4 dX6_weighBand_65 rfl ?_
      refine r_iconst (v := 1) dX6_weighBand_67 rfl ?_
      refine r_isub dX6_weighBand_68 ?_
      obtain ⟨x33, hx33, h⟩ := b1_some h
      refine r_callSNi (rest := [.ref (ad_ G 30)]) (by omega) (mX11_squareAt hx33) cb_X11_squareAt (by decide) sm_X11_squareAt rfl rfl (Nat.le_of_ble_eq_true rfl) dX6_weighBand_69 ?_
      obtain ⟨x34, hx34, h⟩ := b1_some h
      refine r_iaload sX_30 hx34 dX6_weighBand_72 ?_
      refine r_istore (i := 6) [(0, .ref (ad_ G 27)), (1, .int v1), (2, .int v2), (3, .int v3), (4, .int v4), (5, .int v31), (6, .int x34)] [1, 2, 3, 4, 5, 6, 0] dX6_weighBand_73 (by decide) rfl ?_
      refine r_iload_n 1 dX6_weighBand_75 rfl rfl ?_
      refine r_iload_n 3 dX6_weighBand_76 rfl rfl ?_
      refine r_iload 5 dX6_weighBand_77 rfl ?_
      refine r_iload 4 dX6_weighBand_79 rfl ?_
      obtain ⟨x35, hx35, h⟩ := b1_some h
      refine r_callSi (rest := []) (by omega) (mX6_placeOf hx35) cb_X6_placeOf ml_X6_68 sm_X6_placeOf rfl rfl (Nat.le_of_ble_eq_true rfl) dX6_weighBand_81 ?_
      refine r_istore (i := 7) [(0, .ref (ad_ G 27)), (1, .int v1), (2, .int v2), (3, .int v3), (4, .int v4), (5, .int v31), (6, .int x34), (7, .int x35)] [1, 2, 3, 4, 5, 6, 7, 0] dX6_weighBand_84 (by decide) rfl ?_
      refine r_iload_n 1 dX6_weighBand_86 rfl rfl ?_
      refine r_istore (i := 8) [(0, .ref (ad_ G 27)), (1, .int v1), (2, .int v2), (3, .int v3), (4, .int v4), (5, .int v31), (6, .int x34), (7, .int x35), (8, .int v1)] [1, 2, 3, 4, 5, 6, 7, 8, 0] dX6_weighBand_87 (by decide) rfl ?_
      have key : ∀ ex, lp (fun w36 : Int32 × Int32 × St => bX6_weighBand_89 v1 v2 v4 v31 x34 w36.1 w36.2.1 w36.2.2) 5000 (x35, v1, S32) = some ex → (fun u51 : St => Rn G shX 3 yX6_weighBand cX6_weighBand 10 none 186 [(0, .ref (ad_ G 27)), (1, .int v1), (2, .int v2), (3, .int v3), (4, .int v4), (5, .int v31)] [] u51 post) ex → Rn G shX 3 yX6_weighBand cX6_weighBand 10 none 89 [(0, .ref (ad_ G 27)), (1, .int v1), (2, .int v2), (3, .int v3), (4, .int v4), (5, .int v31), (6, .int x34), (7, .int x35), (8, .int v1)] [] S32 post := by
        intro ex hl hx
        refine lp_rule (body := (fun w36 : Int32 × Int32 × St => bX6_weighBand_89 v1 v2 v4 v31 x34 w36.1 w36.2.1 w36.2.2)) (R := (fun w36 : Int32 × Int32 × St => Rn G shX 3 yX6_weighBand cX6_weighBand 10 none 89 [(0, .ref (ad_ G 27)), (1, .int v1), (2, .int v2), (3, .int v3), (4, .int v4), (5, .int v31), (6, .int x34), (7, .int w36.1), (8, .int w36.2.1)] [] w36.2.2 post)) (X := (fun u51 : St => Rn G shX 3 yX6_weighBand cX6_weighBand 10 none 186 [(0, .ref (ad_ G 27)), (1, .int v1), (2, .int v2), (3, .int v3), (4, .int v4), (5, .int v31)] [] u51 post)) ?_ 5000 (x35, v1, S32) ex hl hx
        intro w36 oo h hB hX
        obtain ⟨v37, v38, S39⟩ := w36
        replace h : bX6_weighBand_89 v1 v2 v4 v31 x34 v37 v38 S39 = some oo := h
        unfold bX6_weighBand_89 at h
        show Rn G shX 3 yX6_weighBand cX6_weighBand 10 none 89 [(0, .ref (ad_ G 27)), (1, .int v1), (2, .int v2), (3, .int v3), (4, .int v4), (5, .int v31), (6, .int x34), (7, .int v37), (8, .int v38)] [] S39 post
        refine r_iload 8 dX6_weighBand_89 rfl ?_
        refine r_iload 5 dX6_weighBand_91 rfl ?_
        refine r_iadd dX6_weighBand_93 ?_
        refine r_iload_n 1 dX6_weighBand_94 rfl rfl ?_
        refine r_iload_n 2 dX6_weighBand_95 rfl rfl ?_
        refine r_iadd dX6_weighBand_96 ?_
        refine r_icmp_gt 186 dX6_weighBand_97 (by decide) (fun c50 => ?_) (fun c50 => ?_)
        · rw [if_pos c50] at h
          refine r_sub [(0, .ref (ad_ G 27)), (1, .int v1), (2, .int v2), (3, .int v3), (4, .int v4), (5, .int v31)] [0, 1, 2, 3, 4, 5] rfl ?_
          obtain rfl := Option.some.inj h
          exact hX S39 rfl
        · rw [if_neg c50] at h
          refine r_aload_n 0 dX6_weighBand_100 rfl rfl ?_
          refine r_getC (k := 27) (j := 7) (r := 32) sX_27 rfl fl_X6_29 dX6_weighBand_101 ?_
          refine r_iload 8 dX6_weighBand_104 rfl ?_
          refine r_dup2_11 dX6_weighBand_106 rfl rfl ?_
          obtain ⟨x40, hx40, h⟩ := b1_some h
          refine r_iaload sX_32 hx40 dX6_weighBand_107 ?_
          refine r_aload_n 0 dX6_weighBand_108 rfl rfl ?_
          refine r_getC (k := 27) (j := 6) (r := 31) sX_27 rfl fl_X6_26 dX6_weighBand_109 ?_
          refine r_iload 8 dX6_weighBand_112 rfl ?_
          refine r_iload 5 dX6_weighBand_114 rfl ?_
          refine r_iadd dX6_weighBand_116 ?_
          refine r_iconst (v := 1) dX6_weighBand_117 rfl ?_
          refine r_isub dX6_weighBand_118 ?_
          obtain ⟨x41, hx41, h⟩ := b1_some h
          refine r_iaload sX_31 hx41 dX6_weighBand_119 ?_
          refine r_iand dX6_weighBand_120 ?_
          obtain ⟨S42, hS42, h⟩ := b1_some h
          refine r_iastore sX_32 hS42 dX6_weighBand_121 ?_
          refine r_iload 6 dX6_weighBand_122 rfl ?_
          obtain ⟨w43, hw43, h⟩ := b1_some h
          have hJ : Rn G shX 3 yX6_weighBand cX6_weighBand 10 none 144 [(0, .ref (ad_ G 27)), (1, .int v1), (2, .int v2), (3, .int v3), (4, .int v4), (5, .int v31), (6, .int x34), (7, .int v37), (8, .int v38)] [.int w43] S42 post := by
            refine r_istore (i := 9) [(0, .ref (ad_ G 27)), (1, .int v1), (2, .int v2), (3, .int v3), (4, .int v4), (5, .int v31), (6, .int x34), (7, .int v37), (8, .int v38), (9, .int w43)] [1, 2, 3, 4, 5, 6, 7, 8, 9, 0] dX6_weighBand_144 (by decide) rfl ?_
            refine r_aload_n 0 dX6_weighBand_146 rfl rfl ?_
            refine r_getC (k := 27) (j := 8) (r := 33) sX_27 rfl fl_X6_32 dX6_weighBand_147 ?_
            refine r_iload 7 dX6_weighBand_150 rfl ?_
            refine r_iload 9 dX6_weighBand_152 rfl ?_
            refine r_aload_n 0 dX6_weighBand_154 rfl rfl ?_
            refine r_iload 7 dX6_weighBand_155 rfl ?_
            refine r_iload 5 dX6_weighBand_157 rfl ?_
            obtain ⟨x44, hx44, h⟩ := b1_some h
            refine r_callVi (k := 27) (rest := [.int w43, .int v37, .ref (ad_ G 33)]) (by omega) (mX6_bestDown hx44) sX_27 rfl rfl cb_X6_bestDown ml_X6_110 im_X6_bestDown se_X6_bestDown rfl rfl (Nat.le_of_ble_eq_true rfl) dX6_weighBand_159 ?_
            refine r_aload_n 0 dX6_weighBand_162 rfl rfl ?_
            refine r_iload 7 dX6_weighBand_163 rfl ?_
            refine r_iload 4 dX6_weighBand_165 rfl ?_
            obtain ⟨x45, hx45, h⟩ := b1_some h
            refine r_callVi (k := 27) (rest := [.int x44, .int w43, .int v37, .ref (ad_ G 33)]) (by omega) (mX6_bestAcross hx45) sX_27 rfl rfl cb_X6_bestAcross ml_X6_113 im_X6_bestAcross se_X6_bestAcross rfl rfl (Nat.le_of_ble_eq_true rfl) dX6_weighBand_167 ?_
            refine r_mmax (rest := [.int w43, .int v37, .ref (ad_ G 33)]) (by omega) ml_X6_116 (Nat.le_of_ble_eq_true rfl) dX6_weighBand_170 ?_
            refine r_mmax (rest := [.int v37, .ref (ad_ G 33)]) (by omega) ml_X6_116 (Nat.le_of_ble_eq_true rfl) dX6_weighBand_173 ?_
            obtain ⟨S46, hS46, h⟩ := b1_some h
            refine r_iastore sX_33 hS46 dX6_weighBand_176 ?_
            refine r_iinc (v := v37 + 1) [(0, .ref (ad_ G 27)), (1, .int v1), (2, .int v2), (3, .int v3), (4, .int v4), (5, .int v31), (6, .int x34), (7, .int (v37 + 1)), (8, .int v38), (9, .int w43)] 7 [1, 2, 3, 4, 5, 6, 7, 0, 8, 9] dX6_weighBand_177 rfl rfl (by decide) rfl ?_
            refine r_iinc (v := v38 + 1) [(0, .ref (ad_ G 27)), (1, .int v1), (2, .int v2), (3, .int v3), (4, .int v4), (5, .int v31), (6, .int x34), (7, .int (v37 + 1)), (8, .int (v38 + 1)), (9, .int w43)] 8 [1, 2, 3, 4, 5, 6, 7, 8, 0, 9] dX6_weighBand_180 rfl rfl (by decide) rfl ?_
            refine r_goto 89 dX6_weighBand_183 (by decide) ?_
            refine r_sub [(0, .ref (ad_ G 27)), (1, .int v1), (2, .int v2), (3, .int v3), (4, .int v4), (5, .int v31), (6, .int x34), (7, .int (v37 + 1)), (8, .int (v38 + 1))] [0, 1, 2, 3, 4, 5, 6, 7, 8] rfl ?_
            obtain rfl := Option.some.inj h
            exact hB (v37 + 1, v38 + 1, S46) rfl
          clear h
          replace h := hw43
          refine r_if_ne 131 dX6_weighBand_124 (by decide) (fun c49 => ?_) (fun c49 => ?_)
          · rw [if_neg c49] at h
            refine r_aload_n 0 dX6_weighBand_131 rfl rfl ?_
            refine r_iload 6 dX6_weighBand_132 rfl ?_
            refine r_aload_n 0 dX6_weighBand_134 rfl rfl ?_
            refine r_getC (k := 27) (j := 7) (r := 32) sX_27 rfl fl_X6_29 dX6_weighBand_135 ?_
            refine r_iload 8 dX6_weighBand_138 rfl ?_
            obtain ⟨x47, hx47, h⟩ := b1_some h
            refine r_iaload sX_32 hx47 dX6_weighBand_140 ?_
            obtain ⟨x48, hx48, h⟩ := b1_some h
            refine r_callVi (k := 27) (rest := []) (by omega) (mX6_bestPipe hx48) sX_27 rfl rfl cb_X6_bestPipe ml_X6_107 im_X6_bestPipe se_X6_bestPipe rfl rfl (Nat.le_of_ble_eq_true rfl) dX6_weighBand_141 ?_
            obtain rfl := Option.some.inj h
            exact hJ
          · rw [if_pos c49] at h
            refine r_iconst (v := 0) dX6_weighBand_127 rfl ?_
            refine r_goto 144 dX6_weighBand_128 (by decide) ?_
            obtain rfl := Option.some.inj h
            exact hJ
      obtain ⟨u51, hu51, h⟩ := b1_some h
      refine key u51 hu51 ?_
      show Rn G shX 3 yX6_weighBand cX6_weighBand 10 none 186 [(0, .ref (ad_ G 27)), (1, .int v1), (2, .int v2), (3, .int v3), (4, .int v4), (5, .int v31)] [] u51 post
      refine r_iinc (v := v31 + 1) [(0, .ref (ad_ G 27)), (1, .int v1), (2, .int v2), (3, .int v3), (4, .int v4), (5, .int (v31 + 1))] 5 [1, 2, 3, 4, 5, 0] dX6_weighBand_186 rfl rfl (by decide) rfl ?_
      refine r_goto 51 dX6_weighBand_189 (by decide) ?_
      obtain rfl := Option.some.inj h
      exact hB (v31 + 1, u51) rfl
  obtain ⟨u53, hu53, h⟩ := b1_some h
  refine key u53 hu53 ?_
  show Rn G shX 3 yX6_weighBand cX6_weighBand 10 none 192 [] [] u53 post
  obtain rfl := Option.some.inj h
  exact r_return rfl dX6_weighBand_192 (hp)
theorem mX6_weighBand {G : Gx} {S : St} {v1 : Int32} {v2 : Int32} {v3 : Int32} {v4 : Int32} {o : St}  (h : fX6_weighBand S v1 v2 v3 v4 = some o) : MR_ G shX 3 yX6_weighBand cX6_weighBand 10 none [.ref (ad_ G 27), .int v1, .int v2, .int v3, .int v4] S (PV_ o) := MR_of cb_X6_weighBand (Nat.le_of_ble_eq_true rfl) [(0, .ref (ad_ G 27)), (1, .int v1), (2, .int v2), (3, .int v3), (4, .int v4)] rfl (tX6_weighBand  h ⟨rfl, rfl⟩)
set_option maxRecDepth 100000 in
set_option maxHeartbeats 4000000 in
theorem tX6_weigh {G : Gx} {post : Option Value → St → Prop} {S : St} {v1 : Int32} {v2 : Int32} {v3 : Int32} {v4 : Int32} {o : (Int32 × St)}  (h : fX6_weigh S v1 v2 v3 v4 = some o) (hp : post (some (.int o.1)) o.2) : Rn G shX 4 yX6_weigh cX6_weigh 7 (some .int) 0 [(0, .ref (ad_ G 27)), (1, .int v1), (2, .int v2), (3, .int v3), (4, .int v4)] [] S post := by
  unfold fX6_weigh at h
  refine r_aload_n 0 dX6_weigh_0 rfl rfl ?_
  obtain ⟨S21, hS21, h⟩ := b1_some h
  refine r_callVv (k := 27) (rest := []) (by omega) (mX6_markSquares hS21) sX_27 rfl rfl cb_X6_markSquares ml_X6_58 im_X6_markSquares se_X6_markSquares rfl rfl (Nat.le_of_ble_eq_true rfl) dX6_weigh_1 ?_
  refine r_aload_n 0 dX6_weigh_4 rfl rfl ?_
  obtain ⟨S22, hS22, h⟩ := b1_some h
  refine r_callVv (k := 27) (rest := []) (by omega) (mX6_sortShapes hS22) sX_27 rfl rfl cb_X6_sortShapes ml_X6_61 im_X6_sortShapes se_X6_sortShapes rfl rfl (Nat.le_of_ble_eq_true rfl) dX6_weigh_5 ?_
  refine r_iconst (v := 1) dX6_weigh_8 rfl ?_
  refine r_istore (i := 5) [(0, .ref (ad_ G 27)), (1, .int v1), (2, .int v2), (3, .int v3), (4, .int v4), (5, .int 1)] [1, 2, 3, 4, 5, 0] dX6_weigh_9 (by decide) rfl ?_
  have key : ∀ ex, lp (fun w23 : Int32 × St => bX6_weigh_11 v1 v2 v3 v4 w23.1 w23.2) 5000 (1, S22) = some ex → (fun u33 : St => Rn G shX 4 yX6_weigh cX6_weigh 7 (some .int) 55 [(0, .ref (ad_ G 27)), (1, .int v1), (2, .int v2), (3, .int v3), (4, .int v4)] [] u33 post) ex → Rn G shX 4 yX6_weigh cX6_weigh 7 (some .int) 11 [(0, .ref (ad_ G 27)), (1, .int v1), (2, .int v2), (3, .int v3), (4, .int v4), (5, .int 1)] [] S22 post := by
    intro ex hl hx
    refine lp_rule (body := (fun w23 : Int32 × St => bX6_weigh_11 v1 v2 v3 v4 w23.1 w23.2)) (R := (fun w23 : Int32 × St => Rn G shX 4 yX6_weigh cX6_weigh 7 (some .int) 11 [(0, .ref (ad_ G 27)), (1, .int v1), (2, .int v2), (3, .int v3), (4, .int v4), (5, .int w23.1)] [] w23.2 post)) (X := (fun u33 : St => Rn G shX 4 yX6_weigh cX6_weigh 7 (some .int) 55 [(0, .ref (ad_ G 27)), (1, .int v1), (2, .int v2), (3, .int v3), (4, .int v4)] [] u33 post)) ?_ 5000 (1, S22) ex hl hx
    intro w23 oo h hB hX
    obtain ⟨v24, S25⟩ := w23
    replace h : bX6_weigh_11 v1 v2 v3 v4 v24 S25 = some oo := h
    unfold bX6_weigh_11 at h
    show Rn G shX 4 yX6_weigh cX6_weigh 7 (some .int) 11 [(0, .ref (ad_ G 27)), (1, .int v1), (2, .int v2), (3, .int v3), (4, .int v4), (5, .int v24)] [] S25 post
    refine r_iload 5 dX6_weigh_11 rfl ?_
    refine r_iload 4 dX6_weigh_13 rfl ?_
    refine r_icmp_gt 55 dX6_weigh_15 (by decide) (fun c32 => ?_) (fun c32 => ?_)
    · rw [if_pos c32] at h
      refine r_sub [(0, .ref (ad_ G 27)), (1, .int v1), (2, .int v2), (3, .int v3), (4, .int v4)] [0, 1, 2, 3, 4] rfl ?_
      obtain rfl := Option.some.inj h
      exact hX S25 rfl
    · rw [if_neg c32] at h
      refine r_iload_n 2 dX6_weigh_18 rfl rfl ?_
      refine r_istore (i := 6) [(0, .ref (ad_ G 27)), (1, .int v1), (2, .int v2), (3, .int v3), (4, .int v4), (5, .int v24), (6, .int v2)] [1, 2, 3, 4, 5, 6, 0] dX6_weigh_19 (by decide) rfl ?_
      have key : ∀ ex, lp (fun w26 : Int32 × St => bX6_weigh_21 v1 v2 v3 v4 v24 w26.1 w26.2) 5000 (v2, S25) = some ex → (fun u31 : St => Rn G shX 4 yX6_weigh cX6_weigh 7 (some .int) 49 [(0, .ref (ad_ G 27)), (1, .int v1), (2, .int v2), (3, .int v3), (4, .int v4), (5, .int v24)] [] u31 post) ex → Rn G shX 4 yX6_weigh cX6_weigh 7 (some .int) 21 [(0, .ref (ad_ G 27)), (1, .int v1), (2, .int v2), (3, .int v3), (4, .int v4), (5, .int v24), (6, .int v2)] [] S25 post := by
        intro ex hl hx
        refine lp_rule (body := (fun w26 : Int32 × St => bX6_weigh_21 v1 v2 v3 v4 v24 w26.1 w26.2)) (R := (fun w26 : Int32 × St => Rn G shX 4 yX6_weigh cX6_weigh 7 (some .int) 21 [(0, .ref (ad_ G 27)), (1, .int v1), (2, .int v2), (3, .int v3), (4, .int v4), (5, .int v24), (6, .int w26.1)] [] w26.2 post)) (X := (fun u31 : St => Rn G shX 4 yX6_weigh cX6_weigh 7 (some .int) 49 [(0, .ref (ad_ G 27)), (1, .int v1), (2, .int v2), (3, .int v3), (4, .int v4), (5, .int v24)] [] u31 post)) ?_ 5000 (v2, S25) ex hl hx
        intro w26 oo h hB hX
        obtain ⟨v27, S28⟩ := w26
        replace h : bX6_weigh_21 v1 v2 v3 v4 v24 v27 S28 = some oo := h
        unfold bX6_weigh_21 at h
        show Rn G shX 4 yX6_weigh cX6_weigh 7 (some .int) 21 [(0, .ref (ad_ G 27)), (1, .int v1), (2, .int v2), (3, .int v3), (4, .int v4), (5, .int v24), (6, .int v27)] [] S28 post
        refine r_iload 6 dX6_weigh_21 rfl ?_
        refine r_iload 5 dX6_weigh_23 rfl ?_
        refine r_iadd dX6_weigh_25 ?_
        refine r_iload_n 2 dX6_weigh_26 rfl rfl ?_
        refine r_iload 4 dX6_weigh_27 rfl ?_
        refine r_iadd dX6_weigh_29 ?_
        refine r_icmp_gt 49 dX6_weigh_30 (by decide) (fun c30 => ?_) (fun c30 => ?_)
        · rw [if_pos c30] at h
          refine r_sub [(0, .ref (ad_ G 27)), (1, .int v1), (2, .int v2), (3, .int v3), (4, .int v4), (5, .int v24)] [0, 1, 2, 3, 4, 5] rfl ?_
          obtain rfl := Option.some.inj h
          exact hX S28 rfl
        · rw [if_neg c30] at h
          refine r_aload_n 0 dX6_weigh_33 rfl rfl ?_
          refine r_iload_n 1 dX6_weigh_34 rfl rfl ?_
          refine r_iload_n 3 dX6_weigh_35 rfl rfl ?_
          refine r_iload 6 dX6_weigh_36 rfl ?_
          refine r_iload 5 dX6_weigh_38 rfl ?_
          obtain ⟨S29, hS29, h⟩ := b1_some h
          refine r_callVv (k := 27) (rest := []) (by omega) (mX6_weighBand hS29) sX_27 rfl rfl cb_X6_weighBand ml_X6_64 im_X6_weighBand se_X6_weighBand rfl rfl (Nat.le_of_ble_eq_true rfl) dX6_weigh_40 ?_
          refine r_iinc (v := v27 + 1) [(0, .ref (ad_ G 27)), (1, .int v1), (2, .int v2), (3, .int v3), (4, .int v4), (5, .int v24), (6, .int (v27 + 1))] 6 [1, 2, 3, 4, 5, 6, 0] dX6_weigh_43 rfl rfl (by decide) rfl ?_
          refine r_goto 21 dX6_weigh_46 (by decide) ?_
          obtain rfl := Option.some.inj h
          exact hB (v27 + 1, S29) rfl
      obtain ⟨u31, hu31, h⟩ := b1_some h
      refine key u31 hu31 ?_
      show Rn G shX 4 yX6_weigh cX6_weigh 7 (some .int) 49 [(0, .ref (ad_ G 27)), (1, .int v1), (2, .int v2), (3, .int v3), (4, .int v4), (5, .int v24)] [] u31 post
      refine r_iinc (v := v24 + 1) [(0, .ref (ad_ G 27)), (1, .int v1), (2, .int v2), (3, .int v3), (4, .int v4), (5, .int (v24 + 1))] 5 [1, 2, 3, 4, 5, 0] dX6_weigh_49 rfl rfl (by decide) rfl ?_
      refine r_goto 11 dX6_weigh_52 (by decide) ?_
      obtain rfl := Option.some.inj h
      exact hB (v24 + 1, u31) rfl
  obtain ⟨u33, hu33, h⟩ := b1_some h
  refine key u33 hu33 ?_
  show Rn G shX 4 yX6_weigh cX6_weigh 7 (some .int) 55 [(0, .ref (ad_ G 27)), (1, .int v1), (2, .int v2), (3, .int v3), (4, .int v4)] [] u33 post
  refine r_aload_n 0 dX6_weigh_55 rfl rfl ?_
  refine r_getC (k := 27) (j := 8) (r := 33) sX_27 rfl fl_X6_32 dX6_weigh_56 ?_
  refine r_iload_n 1 dX6_weigh_59 rfl rfl ?_
  refine r_iload_n 2 dX6_weigh_60 rfl rfl ?_
  refine r_iload_n 3 dX6_weigh_61 rfl rfl ?_
  refine r_iload 4 dX6_weigh_62 rfl ?_
  obtain ⟨x34, hx34, h⟩ := b1_some h
  refine r_callSi (rest := [.ref (ad_ G 33)]) (by omega) (mX6_placeOf hx34) cb_X6_placeOf ml_X6_68 sm_X6_placeOf rfl rfl (Nat.le_of_ble_eq_true rfl) dX6_weigh_64 ?_
  obtain ⟨x35, hx35, h⟩ := b1_some h
  refine r_iaload sX_33 hx35 dX6_weigh_67 ?_
  obtain rfl := Option.some.inj h
  exact r_ireturn rfl dX6_weigh_68 (hp)
theorem mX6_weigh {G : Gx} {S : St} {v1 : Int32} {v2 : Int32} {v3 : Int32} {v4 : Int32} {o : (Int32 × St)}  (h : fX6_weigh S v1 v2 v3 v4 = some o) : MR_ G shX 4 yX6_weigh cX6_weigh 7 (some .int) [.ref (ad_ G 27), .int v1, .int v2, .int v3, .int v4] S (PI_ o.1 o.2) := MR_of cb_X6_weigh (Nat.le_of_ble_eq_true rfl) [(0, .ref (ad_ G 27)), (1, .int v1), (2, .int v2), (3, .int v3), (4, .int v4)] rfl (tX6_weigh  h ⟨rfl, rfl⟩)
set_option maxRecDepth 100000 in
set_option maxHeartbeats 4000000 in
theorem tX11_most {G : Gx} {post : Option Value → St → Prop} {S : St} {v1 : Int32} {v2 : Int32} {v3 : Int32} {v4 : Int32} {o : (Int32 × St)}  (h : fX11_most S v1 v2 v3 v4 = some o) (hp : post (some (.int o.1)) o.2) : Rn G shX 5 yX11_most cX11_most 5 (some .int) 0 [(0, .ref (ad_ G 0)), (1, .int v1), (2, .int v2), (3, .int v3), (4, .int v4)] [] S post := by
  unfold fX11_most at h
  refine r_aload_n 0 dX11_most_0 rfl rfl ?_
  refine r_getC (k := 0) (j := 0) (r := 1) sX_0 rfl fl_X11_10 dX11_most_1 ?_
  refine r_iload_n 1 dX11_most_4 rfl rfl ?_
  refine r_iload_n 2 dX11_most_5 rfl rfl ?_
  refine r_iload_n 3 dX11_most_6 rfl rfl ?_
  refine r_iload 4 dX11_most_7 rfl ?_
  obtain ⟨x21, hx21, h⟩ := b1_some h
  refine r_callVi (k := 1) (rest := []) (by omega) (mX1_hasBlock is_1 hx21) sX_1 rfl rfl cb_X1_hasBlock ml_X11_151 im_X1_hasBlock se_X1_hasBlock rfl rfl (Nat.le_of_ble_eq_true rfl) dX11_most_9 ?_
  refine r_if_ne 17 dX11_most_12 (by decide) (fun c24 => ?_) (fun c24 => ?_)
  · rw [if_neg c24] at h
    refine r_aload_n 0 dX11_most_17 rfl rfl ?_
    refine r_getC (k := 0) (j := 3) (r := 27) sX_0 rfl fl_X11_35 dX11_most_18 ?_
    refine r_aload_n 0 dX11_most_21 rfl rfl ?_
    refine r_getC (k := 0) (j := 0) (r := 1) sX_0 rfl fl_X11_10 dX11_most_22 ?_
    refine r_getL (k := 1) (j := 2) sX_1 rfl fl_X11_122 dX11_most_25 ?_
    obtain ⟨S22, hS22, h⟩ := b1_some h
    refine r_callVv (k := 27) (rest := []) (by omega) (mX6_seeOnly hS22) sX_27 rfl rfl cb_X6_seeOnly ml_X11_184 im_X6_seeOnly se_X6_seeOnly rfl rfl (Nat.le_of_ble_eq_true rfl) dX11_most_28 ?_
    refine r_aload_n 0 dX11_most_31 rfl rfl ?_
    refine r_getC (k := 0) (j := 3) (r := 27) sX_0 rfl fl_X11_35 dX11_most_32 ?_
    refine r_iload_n 1 dX11_most_35 rfl rfl ?_
    refine r_iload_n 2 dX11_most_36 rfl rfl ?_
    refine r_iload_n 3 dX11_most_37 rfl rfl ?_
    refine r_iload 4 dX11_most_38 rfl ?_
    obtain ⟨q23, hq23, h⟩ := b1_some h
    refine r_callVi (k := 27) (rest := []) (by omega) (mX6_weigh hq23) sX_27 rfl rfl cb_X6_weigh ml_X11_188 im_X6_weigh se_X6_weigh rfl rfl (Nat.le_of_ble_eq_true rfl) dX11_most_40 ?_
    obtain rfl := Option.some.inj h
    exact r_ireturn rfl dX11_most_43 (hp)
  · rw [if_pos c24] at h
    refine r_iconst (v := (-1)) dX11_most_15 rfl ?_
    obtain rfl := Option.some.inj h
    exact r_ireturn rfl dX11_most_16 (hp)
theorem mX11_most {G : Gx} {S : St} {v1 : Int32} {v2 : Int32} {v3 : Int32} {v4 : Int32} {o : (Int32 × St)}  (h : fX11_most S v1 v2 v3 v4 = some o) : MR_ G shX 5 yX11_most cX11_most 5 (some .int) [.ref (ad_ G 0), .int v1, .int v2, .int v3, .int v4] S (PI_ o.1 o.2) := MR_of cb_X11_most (Nat.le_of_ble_eq_true rfl) [(0, .ref (ad_ G 0)), (1, .int v1), (2, .int v2), (3, .int v3), (4, .int v4)] rfl (tX11_most  h ⟨rfl, rfl⟩)
set_option maxRecDepth 100000 in
set_option maxHeartbeats 4000000 in
theorem tX6_firstCut {G : Gx} {post : Option Value → St → Prop} {S : St} {v1 : Int32} {v2 : Int32} {v3 : Int32} {v4 : Int32} {o : Int32}  (h : fX6_firstCut S v1 v2 v3 v4 = some o) (hp : post (some (.int o)) S) : Rn G shX 2 yX6_firstCut cX6_firstCut 7 (some .int) 0 [(0, .ref (ad_ G 27)), (1, .int v1), (2, .int v2), (3, .int v3), (4, .int v4)] [] S post := by
  unfold fX6_firstCut at h
  refine r_aload_n 0 dX6_firstCut_0 rfl rfl ?_
  refine r_getC (k := 27) (j := 8) (r := 33) sX_27 rfl fl_X6_32 dX6_firstCut_1 ?_
  refine r_iload_n 1 dX6_firstCut_4 rfl rfl ?_
  refine r_iload_n 2 dX6_firstCut_5 rfl rfl ?_
  refine r_iload_n 3 dX6_firstCut_6 rfl rfl ?_
  refine r_iload 4 dX6_firstCut_7 rfl ?_
  obtain ⟨x21, hx21, h⟩ := b1_some h
  refine r_callSi (rest := [.ref (ad_ G 33)]) (by omega) (mX6_placeOf hx21) cb_X6_placeOf ml_X6_68 sm_X6_placeOf rfl rfl (Nat.le_of_ble_eq_true rfl) dX6_firstCut_9 ?_
  obtain ⟨x22, hx22, h⟩ := b1_some h
  refine r_iaload sX_33 hx22 dX6_firstCut_12 ?_
  refine r_istore (i := 5) [(0, .ref (ad_ G 27)), (1, .int v1), (2, .int v2), (3, .int v3), (4, .int v4), (5, .int x22)] [1, 2, 3, 4, 5, 0] dX6_firstCut_13 (by decide) rfl ?_
  refine r_iconst (v := 1) dX6_firstCut_15 rfl ?_
  refine r_istore (i := 6) [(0, .ref (ad_ G 27)), (1, .int v1), (2, .int v2), (3, .int v3), (4, .int v4), (5, .int x22), (6, .int 1)] [1, 2, 3, 4, 5, 6, 0] dX6_firstCut_16 (by decide) rfl ?_
  have key : ∀ ex, lp (fun w23 : Int32 => bX6_firstCut_18 S v1 v2 v3 v4 x22 w23) 5000 1 = some ex → (fun ex : (Unit) ⊕ Int32 => match ex with | .inl u31 => Rn G shX 2 yX6_firstCut cX6_firstCut 7 (some .int) 75 [(0, .ref (ad_ G 27)), (1, .int v1), (2, .int v2), (3, .int v3), (4, .int v4), (5, .int x22)] [] S post | .inr rr => post (some (.int rr)) S) ex → Rn G shX 2 yX6_firstCut cX6_firstCut 7 (some .int) 18 [(0, .ref (ad_ G 27)), (1, .int v1), (2, .int v2), (3, .int v3), (4, .int v4), (5, .int x22), (6, .int 1)] [] S post := by
    intro ex hl hx
    refine lp_rule (body := (fun w23 : Int32 => bX6_firstCut_18 S v1 v2 v3 v4 x22 w23)) (R := (fun w23 : Int32 => Rn G shX 2 yX6_firstCut cX6_firstCut 7 (some .int) 18 [(0, .ref (ad_ G 27)), (1, .int v1), (2, .int v2), (3, .int v3), (4, .int v4), (5, .int x22), (6, .int w23)] [] S post)) (X := (fun ex : (Unit) ⊕ Int32 => match ex with | .inl u31 => Rn G shX 2 yX6_firstCut cX6_firstCut 7 (some .int) 75 [(0, .ref (ad_ G 27)), (1, .int v1), (2, .int v2), (3, .int v3), (4, .int v4), (5, .int x22)] [] S post | .inr rr => post (some (.int rr)) S)) ?_ 5000 1 ex hl hx
    intro w23 oo h hB hX
    obtain ⟨v24, rfl⟩ : ∃ z, z = w23 := ⟨_, rfl⟩
    replace h : bX6_firstCut_18 S v1 v2 v3 v4 x22 v24 = some oo := h
    unfold bX6_firstCut_18 at h
    show Rn G shX 2 yX6_firstCut cX6_firstCut 7 (some .int) 18 [(0, .ref (ad_ G 27)), (1, .int v1), (2, .int v2), (3, .int v3), (4, .int v4), (5, .int x22), (6, .int v24)] [] S post
    refine r_iload 6 dX6_firstCut_18 rfl ?_
    refine r_iload_n 3 dX6_firstCut_20 rfl rfl ?_
    refine r_icmp_ge 75 dX6_firstCut_21 (by decide) (fun c30 => ?_) (fun c30 => ?_)
    · rw [if_pos c30] at h
      refine r_sub [(0, .ref (ad_ G 27)), (1, .int v1), (2, .int v2), (3, .int v3), (4, .int v4), (5, .int x22)] [0, 1, 2, 3, 4, 5] rfl ?_
      obtain rfl := Option.some.inj h
      exact hX (.inl ()) rfl
    · rw [if_neg c30] at h
      refine r_aload_n 0 dX6_firstCut_24 rfl rfl ?_
      refine r_getC (k := 27) (j := 8) (r := 33) sX_27 rfl fl_X6_32 dX6_firstCut_25 ?_
      refine r_iload_n 1 dX6_firstCut_28 rfl rfl ?_
      refine r_iload_n 2 dX6_firstCut_29 rfl rfl ?_
      refine r_iload 6 dX6_firstCut_30 rfl ?_
      refine r_iload 4 dX6_firstCut_32 rfl ?_
      obtain ⟨x25, hx25, h⟩ := b1_some h
      refine r_callSi (rest := [.ref (ad_ G 33)]) (by omega) (mX6_placeOf hx25) cb_X6_placeOf ml_X6_68 sm_X6_placeOf rfl rfl (Nat.le_of_ble_eq_true rfl) dX6_firstCut_34 ?_
      obtain ⟨x26, hx26, h⟩ := b1_some h
      refine r_iaload sX_33 hx26 dX6_firstCut_37 ?_
      refine r_aload_n 0 dX6_firstCut_38 rfl rfl ?_
      refine r_getC (k := 27) (j := 8) (r := 33) sX_27 rfl fl_X6_32 dX6_firstCut_39 ?_
      refine r_iload_n 1 dX6_firstCut_42 rfl rfl ?_
      refine r_iload 6 dX6_firstCut_43 rfl ?_
      refine r_iadd dX6_firstCut_45 ?_
      refine r_iload_n 2 dX6_firstCut_46 rfl rfl ?_
      refine r_iload_n 3 dX6_firstCut_47 rfl rfl ?_
      refine r_iload 6 dX6_firstCut_48 rfl ?_
      refine r_isub dX6_firstCut_50 ?_
      refine r_iload 4 dX6_firstCut_51 rfl ?_
      obtain ⟨x27, hx27, h⟩ := b1_some h
      refine r_callSi (rest := [.ref (ad_ G 33), .int x26]) (by omega) (mX6_placeOf hx27) cb_X6_placeOf ml_X6_68 sm_X6_placeOf rfl rfl (Nat.le_of_ble_eq_true rfl) dX6_firstCut_53 ?_
      obtain ⟨x28, hx28, h⟩ := b1_some h
      refine r_iaload sX_33 hx28 dX6_firstCut_56 ?_
      refine r_iadd dX6_firstCut_57 ?_
      refine r_iload 5 dX6_firstCut_58 rfl ?_
      refine r_icmp_ne 69 dX6_firstCut_60 (by decide) (fun c29 => ?_) (fun c29 => ?_)
      · rw [if_neg c29] at h
        refine r_iinc (v := v24 + 1) [(0, .ref (ad_ G 27)), (1, .int v1), (2, .int v2), (3, .int v3), (4, .int v4), (5, .int x22), (6, .int (v24 + 1))] 6 [1, 2, 3, 4, 5, 6, 0] dX6_firstCut_69 rfl rfl (by decide) rfl ?_
        refine r_goto 18 dX6_firstCut_72 (by decide) ?_
        obtain rfl := Option.some.inj h
        exact hB (v24 + 1) rfl
      · rw [if_pos c29] at h
        refine r_bipush (v := 100) dX6_firstCut_63 rfl ?_
        refine r_iload 6 dX6_firstCut_65 rfl ?_
        refine r_iadd dX6_firstCut_67 ?_
        obtain rfl := Option.some.inj h
        exact r_ireturn rfl dX6_firstCut_68 (hX (.inr (100 + v24)) rfl)
  rcases bs_some h with ⟨u31, hu31, h⟩ | ⟨rr, hu31, h⟩
  · refine key _ hu31 ?_
    show Rn G shX 2 yX6_firstCut cX6_firstCut 7 (some .int) 75 [(0, .ref (ad_ G 27)), (1, .int v1), (2, .int v2), (3, .int v3), (4, .int v4), (5, .int x22)] [] S post
    refine r_iconst (v := 1) dX6_firstCut_75 rfl ?_
    refine r_istore (i := 6) [(0, .ref (ad_ G 27)), (1, .int v1), (2, .int v2), (3, .int v3), (4, .int v4), (5, .int x22), (6, .int 1)] [1, 2, 3, 4, 5, 6, 0] dX6_firstCut_76 (by decide) rfl ?_
    have key : ∀ ex, lp (fun w32 : Int32 => bX6_firstCut_78 S v1 v2 v3 v4 x22 w32) 5000 1 = some ex → (fun ex : (Unit) ⊕ Int32 => match ex with | .inl u40 => Rn G shX 2 yX6_firstCut cX6_firstCut 7 (some .int) 136 [] [] S post | .inr rr => post (some (.int rr)) S) ex → Rn G shX 2 yX6_firstCut cX6_firstCut 7 (some .int) 78 [(0, .ref (ad_ G 27)), (1, .int v1), (2, .int v2), (3, .int v3), (4, .int v4), (5, .int x22), (6, .int 1)] [] S post := by
      intro ex hl hx
      refine lp_rule (body := (fun w32 : Int32 => bX6_firstCut_78 S v1 v2 v3 v4 x22 w32)) (R := (fun w32 : Int32 => Rn G shX 2 yX6_firstCut cX6_firstCut 7 (some .int) 78 [(0, .ref (ad_ G 27)), (1, .int v1), (2, .int v2), (3, .int v3), (4, .int v4), (5, .int x22), (6, .int w32)] [] S post)) (X := (fun ex : (Unit) ⊕ Int32 => match ex with | .inl u40 => Rn G shX 2 yX6_firstCut cX6_firstCut 7 (some .int) 136 [] [] S post | .inr rr => post (some (.int rr)) S)) ?_ 5000 1 ex hl hx
      intro w32 oo h hB hX
      obtain ⟨v33, rfl⟩ : ∃ z, z = w32 := ⟨_, rfl⟩
      replace h : bX6_firstCut_78 S v1 v2 v3 v4 x22 v33 = some oo := h
      unfold bX6_firstCut_78 at h
      show Rn G shX 2 yX6_firstCut cX6_firstCut 7 (some .int) 78 [(0, .ref (ad_ G 27)), (1, .int v1), (2, .int v2), (3, .int v3), (4, .int v4), (5, .int x22), (6, .int v33)] [] S post
      refine r_iload 6 dX6_firstCut_78 rfl ?_
      refine r_iload 4 dX6_firstCut_80 rfl ?_
      refine r_icmp_ge 136 dX6_firstCut_82 (by decide) (fun c39 => ?_) (fun c39 => ?_)
      · rw [if_pos c39] at h
        refine r_sub [] [] rfl ?_
        obtain rfl := Option.some.inj h
        exact hX (.inl ()) rfl
      · rw [if_neg c39] at h
        refine r_aload_n 0 dX6_firstCut_85 rfl rfl ?_
        refine r_getC (k := 27) (j := 8) (r := 33) sX_27 rfl fl_X6_32 dX6_firstCut_86 ?_
        refine r_iload_n 1 dX6_firstCut_89 rfl rfl ?_
        refine r_iload_n 2 dX6_firstCut_90 rfl rfl ?_
        refine r_iload_n 3 dX6_firstCut_91 rfl rfl ?_
        refine r_iload 6 dX6_firstCut_92 rfl ?_
        obtain ⟨x34, hx34, h⟩ := b1_some h
        refine r_callSi (rest := [.ref (ad_ G 33)]) (by omega) (mX6_placeOf hx34) cb_X6_placeOf ml_X6_68 sm_X6_placeOf rfl rfl (Nat.le_of_ble_eq_true rfl) dX6_firstCut_94 ?_
        obtain ⟨x35, hx35, h⟩ := b1_some h
        refine r_iaload sX_33 hx35 dX6_firstCut_97 ?_
        refine r_aload_n 0 dX6_firstCut_98 rfl rfl ?_
        refine r_getC (k := 27) (j := 8) (r := 33) sX_27 rfl fl_X6_32 dX6_firstCut_99 ?_
        refine r_iload_n 1 dX6_firstCut_102 rfl rfl ?_
        refine r_iload_n 2 dX6_firstCut_103 rfl rfl ?_
        refine r_iload 6 dX6_firstCut_104 rfl ?_
        refine r_iadd dX6_firstCut_106 ?_
        refine r_iload_n 3 dX6_firstCut_107 rfl rfl ?_
        refine r_iload 4 dX6_firstCut_108 rfl ?_
        refine r_iload 6 dX6_firstCut_110 rfl ?_
        refine r_isub dX6_firstCut_112 ?_
        obtain ⟨x36, hx36, h⟩ := b1_some h
        refine r_callSi (rest := [.ref (ad_ G 33), .int x35]) (by omega) (mX6_placeOf hx36) cb_X6_placeOf ml_X6_68 sm_X6_placeOf rfl rfl (Nat.le_of_ble_eq_true rfl) dX6_firstCut_113 ?_
        obtain ⟨x37, hx37, h⟩ := b1_some h
        refine r_iaload sX_33 hx37 dX6_firstCut_116 ?_
        refine r_iadd dX6_firstCut_117 ?_
        refine r_iload 5 dX6_firstCut_118 rfl ?_
        refine r_icmp_ne 130 dX6_firstCut_120 (by decide) (fun c38 => ?_) (fun c38 => ?_)
        · rw [if_neg c38] at h
          refine r_iinc (v := v33 + 1) [(0, .ref (ad_ G 27)), (1, .int v1), (2, .int v2), (3, .int v3), (4, .int v4), (5, .int x22), (6, .int (v33 + 1))] 6 [1, 2, 3, 4, 5, 6, 0] dX6_firstCut_130 rfl rfl (by decide) rfl ?_
          refine r_goto 78 dX6_firstCut_133 (by decide) ?_
          obtain rfl := Option.some.inj h
          exact hB (v33 + 1) rfl
        · rw [if_pos c38] at h
          refine r_sipush (v := 200) dX6_firstCut_123 rfl ?_
          refine r_iload 6 dX6_firstCut_126 rfl ?_
          refine r_iadd dX6_firstCut_128 ?_
          obtain rfl := Option.some.inj h
          exact r_ireturn rfl dX6_firstCut_129 (hX (.inr (200 + v33)) rfl)
    rcases bs_some h with ⟨u40, hu40, h⟩ | ⟨rr, hu40, h⟩
    · refine key _ hu40 ?_
      show Rn G shX 2 yX6_firstCut cX6_firstCut 7 (some .int) 136 [] [] S post
      refine r_bipush (v := (-5)) dX6_firstCut_136 rfl ?_
      obtain rfl := Option.some.inj h
      exact r_ireturn rfl dX6_firstCut_138 (hp)
    · refine key _ hu40 ?_
      show post (some (.int rr)) S
      obtain rfl := Option.some.inj h
      exact hp
  · refine key _ hu31 ?_
    show post (some (.int rr)) S
    obtain rfl := Option.some.inj h
    exact hp
theorem mX6_firstCut {G : Gx} {S : St} {v1 : Int32} {v2 : Int32} {v3 : Int32} {v4 : Int32} {o : Int32}  (h : fX6_firstCut S v1 v2 v3 v4 = some o) : MR_ G shX 2 yX6_firstCut cX6_firstCut 7 (some .int) [.ref (ad_ G 27), .int v1, .int v2, .int v3, .int v4] S (PI_ o S) := MR_of cb_X6_firstCut (Nat.le_of_ble_eq_true rfl) [(0, .ref (ad_ G 27)), (1, .int v1), (2, .int v2), (3, .int v3), (4, .int v4)] rfl (tX6_firstCut  h ⟨rfl, rfl⟩)
set_option maxRecDepth 100000 in
set_option maxHeartbeats 4000000 in
theorem tX6_decide {G : Gx} {post : Option Value → St → Prop} {S : St} {v1 : Int32} {v2 : Int32} {v3 : Int32} {v4 : Int32} {o : Int32}  (h : fX6_decide S v1 v2 v3 v4 = some o) (hp : post (some (.int o)) S) : Rn G shX 3 yX6_decide cX6_decide 9 (some .int) 0 [(0, .ref (ad_ G 27)), (1, .int v1), (2, .int v2), (3, .int v3), (4, .int v4)] [] S post := by
  unfold fX6_decide at h
  refine r_aload_n 0 dX6_decide_0 rfl rfl ?_
  refine r_getC (k := 27) (j := 8) (r := 33) sX_27 rfl fl_X6_32 dX6_decide_1 ?_
  refine r_iload_n 1 dX6_decide_4 rfl rfl ?_
  refine r_iload_n 2 dX6_decide_5 rfl rfl ?_
  refine r_iload_n 3 dX6_decide_6 rfl rfl ?_
  refine r_iload 4 dX6_decide_7 rfl ?_
  obtain ⟨x21, hx21, h⟩ := b1_some h
  refine r_callSi (rest := [.ref (ad_ G 33)]) (by omega) (mX6_placeOf hx21) cb_X6_placeOf ml_X6_68 sm_X6_placeOf rfl rfl (Nat.le_of_ble_eq_true rfl) dX6_decide_9 ?_
  obtain ⟨x22, hx22, h⟩ := b1_some h
  refine r_iaload sX_33 hx22 dX6_decide_12 ?_
  refine r_istore (i := 5) [(0, .ref (ad_ G 27)), (1, .int v1), (2, .int v2), (3, .int v3), (4, .int v4), (5, .int x22)] [1, 2, 3, 4, 5, 0] dX6_decide_13 (by decide) rfl ?_
  refine r_iload 5 dX6_decide_15 rfl ?_
  refine r_if_ne 23 dX6_decide_17 (by decide) (fun c34 => ?_) (fun c34 => ?_)
  · rw [if_neg c34] at h
    refine r_aload_n 0 dX6_decide_23 rfl rfl ?_
    refine r_getC (k := 27) (j := 5) (r := 30) sX_27 rfl fl_X6_23 dX6_decide_24 ?_
    refine r_iload_n 3 dX6_decide_27 rfl rfl ?_
    refine r_iconst (v := 1) dX6_decide_28 rfl ?_
    refine r_isub dX6_decide_29 ?_
    refine r_iload 4 dX6_decide_30 rfl ?_
    refine r_iconst (v := 1) dX6_decide_32 rfl ?_
    refine r_isub dX6_decide_33 ?_
    obtain ⟨x23, hx23, h⟩ := b1_some h
    refine r_callSNi (rest := [.ref (ad_ G 30)]) (by omega) (mX11_squareAt hx23) cb_X11_squareAt (by decide) sm_X11_squareAt rfl rfl (Nat.le_of_ble_eq_true rfl) dX6_decide_34 ?_
    obtain ⟨x24, hx24, h⟩ := b1_some h
    refine r_iaload sX_30 hx24 dX6_decide_37 ?_
    refine r_istore (i := 6) [(0, .ref (ad_ G 27)), (1, .int v1), (2, .int v2), (3, .int v3), (4, .int v4), (5, .int x22), (6, .int x24)] [1, 2, 3, 4, 5, 6, 0] dX6_decide_38 (by decide) rfl ?_
    refine r_aload_n 0 dX6_decide_40 rfl rfl ?_
    refine r_iload_n 1 dX6_decide_41 rfl rfl ?_
    refine r_iload_n 2 dX6_decide_42 rfl rfl ?_
    refine r_iload_n 3 dX6_decide_43 rfl rfl ?_
    refine r_iload 4 dX6_decide_44 rfl ?_
    obtain ⟨x25, hx25, h⟩ := b1_some h
    refine r_callVi (k := 27) (rest := []) (by omega) (mX6_markOf hx25) sX_27 rfl rfl cb_X6_markOf ml_X6_104 im_X6_markOf se_X6_markOf rfl rfl (Nat.le_of_ble_eq_true rfl) dX6_decide_46 ?_
    refine r_istore (i := 7) [(0, .ref (ad_ G 27)), (1, .int v1), (2, .int v2), (3, .int v3), (4, .int v4), (5, .int x22), (6, .int x24), (7, .int x25)] [1, 2, 3, 4, 5, 6, 7, 0] dX6_decide_49 (by decide) rfl ?_
    refine r_iconst (v := 0) dX6_decide_51 rfl ?_
    refine r_istore (i := 8) [(0, .ref (ad_ G 27)), (1, .int v1), (2, .int v2), (3, .int v3), (4, .int v4), (5, .int x22), (6, .int x24), (7, .int x25), (8, .int 0)] [1, 2, 3, 4, 5, 6, 7, 8, 0] dX6_decide_52 (by decide) rfl ?_
    have key : ∀ ex, lp (fun w26 : Int32 => bX6_decide_54 S x22 x24 x25 w26) 5000 0 = some ex → (fun ex : (Unit) ⊕ Int32 => match ex with | .inl u32 => Rn G shX 3 yX6_decide cX6_decide 9 (some .int) 99 [(0, .ref (ad_ G 27)), (1, .int v1), (2, .int v2), (3, .int v3), (4, .int v4)] [] S post | .inr rr => post (some (.int rr)) S) ex → Rn G shX 3 yX6_decide cX6_decide 9 (some .int) 54 [(0, .ref (ad_ G 27)), (1, .int v1), (2, .int v2), (3, .int v3), (4, .int v4), (5, .int x22), (6, .int x24), (7, .int x25), (8, .int 0)] [] S post := by
      intro ex hl hx
      refine lp_rule (body := (fun w26 : Int32 => bX6_decide_54 S x22 x24 x25 w26)) (R := (fun w26 : Int32 => Rn G shX 3 yX6_decide cX6_decide 9 (some .int) 54 [(0, .ref (ad_ G 27)), (1, .int v1), (2, .int v2), (3, .int v3), (4, .int v4), (5, .int x22), (6, .int x24), (7, .int x25), (8, .int w26)] [] S post)) (X := (fun ex : (Unit) ⊕ Int32 => match ex with | .inl u32 => Rn G shX 3 yX6_decide cX6_decide 9 (some .int) 99 [(0, .ref (ad_ G 27)), (1, .int v1), (2, .int v2), (3, .int v3), (4, .int v4)] [] S post | .inr rr => post (some (.int rr)) S)) ?_ 5000 0 ex hl hx
      intro w26 oo h hB hX
      obtain ⟨v27, rfl⟩ : ∃ z, z = w26 := ⟨_, rfl⟩
      replace h : bX6_decide_54 S x22 x24 x25 v27 = some oo := h
      unfold bX6_decide_54 at h
      show Rn G shX 3 yX6_decide cX6_decide 9 (some .int) 54 [(0, .ref (ad_ G 27)), (1, .int v1), (2, .int v2), (3, .int v3), (4, .int v4), (5, .int x22), (6, .int x24), (7, .int x25), (8, .int v27)] [] S post
      refine r_iload 8 dX6_decide_54 rfl ?_
      refine r_aload_n 0 dX6_decide_56 rfl rfl ?_
      refine r_getC (k := 27) (j := 1) (r := 21) sX_27 rfl fl_X6_54 dX6_decide_57 ?_
      refine r_getI (k := 21) (j := 5) sX_21 rfl fl_X6_91 dX6_decide_60 ?_
      refine r_icmp_ge 99 dX6_decide_63 (by decide) (fun c31 => ?_) (fun c31 => ?_)
      · rw [if_pos c31] at h
        refine r_sub [(0, .ref (ad_ G 27)), (1, .int v1), (2, .int v2), (3, .int v3), (4, .int v4)] [0, 1, 2, 3, 4] rfl ?_
        obtain rfl := Option.some.inj h
        exact hX (.inl ()) rfl
      · rw [if_neg c31] at h
        refine r_iload 6 dX6_decide_66 rfl ?_
        refine r_iload 8 dX6_decide_68 rfl ?_
        refine r_ishr dX6_decide_70 ?_
        refine r_iconst (v := 1) dX6_decide_71 rfl ?_
        refine r_iand dX6_decide_72 ?_
        refine r_iconst (v := 1) dX6_decide_73 rfl ?_
        refine r_icmp_ne 93 dX6_decide_74 (by decide) (fun c30 => ?_) (fun c30 => ?_)
        · rw [if_neg c30] at h
          refine r_iinc (v := v27 + 1) [(0, .ref (ad_ G 27)), (1, .int v1), (2, .int v2), (3, .int v3), (4, .int v4), (5, .int x22), (6, .int x24), (7, .int x25), (8, .int (v27 + 1))] 8 [1, 2, 3, 4, 5, 6, 7, 8, 0] dX6_decide_93 rfl rfl (by decide) rfl ?_
          refine r_goto 54 dX6_decide_96 (by decide) ?_
          obtain rfl := Option.some.inj h
          exact hB (v27 + 1) rfl
        · rw [if_pos c30] at h
          refine r_aload_n 0 dX6_decide_77 rfl rfl ?_
          refine r_iload 8 dX6_decide_78 rfl ?_
          refine r_iload 7 dX6_decide_80 rfl ?_
          obtain ⟨x28, hx28, h⟩ := b1_some h
          refine r_callVi (k := 27) (rest := []) (by omega) (mX6_brings hx28) sX_27 rfl rfl cb_X6_brings ml_X6_133 im_X6_brings se_X6_brings rfl rfl (Nat.le_of_ble_eq_true rfl) dX6_decide_82 ?_
          refine r_iload 5 dX6_decide_85 rfl ?_
          refine r_icmp_ne 93 dX6_decide_87 (by decide) (fun c29 => ?_) (fun c29 => ?_)
          · rw [if_neg c29] at h
            refine r_iinc (v := v27 + 1) [(0, .ref (ad_ G 27)), (1, .int v1), (2, .int v2), (3, .int v3), (4, .int v4), (5, .int x22), (6, .int x24), (7, .int x25), (8, .int (v27 + 1))] 8 [1, 2, 3, 4, 5, 6, 7, 8, 0] dX6_decide_93 rfl rfl (by decide) rfl ?_
            refine r_goto 54 dX6_decide_96 (by decide) ?_
            obtain rfl := Option.some.inj h
            exact hB (v27 + 1) rfl
          · rw [if_pos c29] at h
            refine r_iload 8 dX6_decide_90 rfl ?_
            obtain rfl := Option.some.inj h
            exact r_ireturn rfl dX6_decide_92 (hX (.inr v27) rfl)
    rcases bs_some h with ⟨u32, hu32, h⟩ | ⟨rr, hu32, h⟩
    · refine key _ hu32 ?_
      show Rn G shX 3 yX6_decide cX6_decide 9 (some .int) 99 [(0, .ref (ad_ G 27)), (1, .int v1), (2, .int v2), (3, .int v3), (4, .int v4)] [] S post
      refine r_aload_n 0 dX6_decide_99 rfl rfl ?_
      refine r_iload_n 1 dX6_decide_100 rfl rfl ?_
      refine r_iload_n 2 dX6_decide_101 rfl rfl ?_
      refine r_iload_n 3 dX6_decide_102 rfl rfl ?_
      refine r_iload 4 dX6_decide_103 rfl ?_
      obtain ⟨x33, hx33, h⟩ := b1_some h
      refine r_callVi (k := 27) (rest := []) (by omega) (mX6_firstCut hx33) sX_27 rfl rfl cb_X6_firstCut ml_X6_136 im_X6_firstCut se_X6_firstCut rfl rfl (Nat.le_of_ble_eq_true rfl) dX6_decide_105 ?_
      obtain rfl := Option.some.inj h
      exact r_ireturn rfl dX6_decide_108 (hp)
    · refine key _ hu32 ?_
      show post (some (.int rr)) S
      obtain rfl := Option.some.inj h
      exact hp
  · rw [if_pos c34] at h
    refine r_bipush (v := (-5)) dX6_decide_20 rfl ?_
    obtain rfl := Option.some.inj h
    exact r_ireturn rfl dX6_decide_22 (hp)
theorem mX6_decide {G : Gx} {S : St} {v1 : Int32} {v2 : Int32} {v3 : Int32} {v4 : Int32} {o : Int32}  (h : fX6_decide S v1 v2 v3 v4 = some o) : MR_ G shX 3 yX6_decide cX6_decide 9 (some .int) [.ref (ad_ G 27), .int v1, .int v2, .int v3, .int v4] S (PI_ o S) := MR_of cb_X6_decide (Nat.le_of_ble_eq_true rfl) [(0, .ref (ad_ G 27)), (1, .int v1), (2, .int v2), (3, .int v3), (4, .int v4)] rfl (tX6_decide  h ⟨rfl, rfl⟩)
set_option maxRecDepth 100000 in
set_option maxHeartbeats 4000000 in
theorem tX11_cut {G : Gx} {post : Option Value → St → Prop} {S : St} {v1 : Int32} {v2 : Int32} {v3 : Int32} {v4 : Int32} {o : (Int32 × St)}  (h : fX11_cut S v1 v2 v3 v4 = some o) (hp : post (some (.int o.1)) o.2) : Rn G shX 5 yX11_cut cX11_cut 5 (some .int) 0 [(0, .ref (ad_ G 0)), (1, .int v1), (2, .int v2), (3, .int v3), (4, .int v4)] [] S post := by
  unfold fX11_cut at h
  refine r_aload_n 0 dX11_cut_0 rfl rfl ?_
  refine r_getC (k := 0) (j := 0) (r := 1) sX_0 rfl fl_X11_10 dX11_cut_1 ?_
  refine r_iload_n 1 dX11_cut_4 rfl rfl ?_
  refine r_iload_n 2 dX11_cut_5 rfl rfl ?_
  refine r_iload_n 3 dX11_cut_6 rfl rfl ?_
  refine r_iload 4 dX11_cut_7 rfl ?_
  obtain ⟨x21, hx21, h⟩ := b1_some h
  refine r_callVi (k := 1) (rest := []) (by omega) (mX1_hasBlock is_1 hx21) sX_1 rfl rfl cb_X1_hasBlock ml_X11_151 im_X1_hasBlock se_X1_hasBlock rfl rfl (Nat.le_of_ble_eq_true rfl) dX11_cut_9 ?_
  refine r_if_ne 17 dX11_cut_12 (by decide) (fun c25 => ?_) (fun c25 => ?_)
  · rw [if_neg c25] at h
    refine r_aload_n 0 dX11_cut_17 rfl rfl ?_
    refine r_getC (k := 0) (j := 3) (r := 27) sX_0 rfl fl_X11_35 dX11_cut_18 ?_
    refine r_aload_n 0 dX11_cut_21 rfl rfl ?_
    refine r_getC (k := 0) (j := 0) (r := 1) sX_0 rfl fl_X11_10 dX11_cut_22 ?_
    refine r_getL (k := 1) (j := 2) sX_1 rfl fl_X11_122 dX11_cut_25 ?_
    obtain ⟨S22, hS22, h⟩ := b1_some h
    refine r_callVv (k := 27) (rest := []) (by omega) (mX6_seeOnly hS22) sX_27 rfl rfl cb_X6_seeOnly ml_X11_184 im_X6_seeOnly se_X6_seeOnly rfl rfl (Nat.le_of_ble_eq_true rfl) dX11_cut_28 ?_
    refine r_aload_n 0 dX11_cut_31 rfl rfl ?_
    refine r_getC (k := 0) (j := 3) (r := 27) sX_0 rfl fl_X11_35 dX11_cut_32 ?_
    refine r_iload_n 1 dX11_cut_35 rfl rfl ?_
    refine r_iload_n 2 dX11_cut_36 rfl rfl ?_
    refine r_iload_n 3 dX11_cut_37 rfl rfl ?_
    refine r_iload 4 dX11_cut_38 rfl ?_
    obtain ⟨q23, hq23, h⟩ := b1_some h
    refine r_callVi (k := 27) (rest := []) (by omega) (mX6_weigh hq23) sX_27 rfl rfl cb_X6_weigh ml_X11_188 im_X6_weigh se_X6_weigh rfl rfl (Nat.le_of_ble_eq_true rfl) dX11_cut_40 ?_
    refine r_pop dX11_cut_43 rfl ?_
    refine r_aload_n 0 dX11_cut_44 rfl rfl ?_
    refine r_getC (k := 0) (j := 3) (r := 27) sX_0 rfl fl_X11_35 dX11_cut_45 ?_
    refine r_iload_n 1 dX11_cut_48 rfl rfl ?_
    refine r_iload_n 2 dX11_cut_49 rfl rfl ?_
    refine r_iload_n 3 dX11_cut_50 rfl rfl ?_
    refine r_iload 4 dX11_cut_51 rfl ?_
    obtain ⟨x24, hx24, h⟩ := b1_some h
    refine r_callVi (k := 27) (rest := []) (by omega) (mX6_decide hx24) sX_27 rfl rfl cb_X6_decide ml_X11_191 im_X6_decide se_X6_decide rfl rfl (Nat.le_of_ble_eq_true rfl) dX11_cut_53 ?_
    obtain rfl := Option.some.inj h
    exact r_ireturn rfl dX11_cut_56 (hp)
  · rw [if_pos c25] at h
    refine r_iconst (v := (-1)) dX11_cut_15 rfl ?_
    obtain rfl := Option.some.inj h
    exact r_ireturn rfl dX11_cut_16 (hp)
theorem mX11_cut {G : Gx} {S : St} {v1 : Int32} {v2 : Int32} {v3 : Int32} {v4 : Int32} {o : (Int32 × St)}  (h : fX11_cut S v1 v2 v3 v4 = some o) : MR_ G shX 5 yX11_cut cX11_cut 5 (some .int) [.ref (ad_ G 0), .int v1, .int v2, .int v3, .int v4] S (PI_ o.1 o.2) := MR_of cb_X11_cut (Nat.le_of_ble_eq_true rfl) [(0, .ref (ad_ G 0)), (1, .int v1), (2, .int v2), (3, .int v3), (4, .int v4)] rfl (tX11_cut  h ⟨rfl, rfl⟩)
set_option maxRecDepth 100000 in
set_option maxHeartbeats 4000000 in
theorem tX11_mostWith {G : Gx} {post : Option Value → St → Prop} {S : St} {v1 : Int64} {o : (Int32 × St)}  (h : fX11_mostWith S v1 = some o) (hp : post (some (.int o.1)) o.2) : Rn G shX 5 yX11_mostWith cX11_mostWith 3 (some .int) 0 [(0, .ref (ad_ G 0)), (1, .long v1)] [] S post := by
  unfold fX11_mostWith at h
  refine r_aload_n 0 dX11_mostWith_0 rfl rfl ?_
  refine r_getC (k := 0) (j := 3) (r := 27) sX_0 rfl fl_X11_35 dX11_mostWith_1 ?_
  refine r_lload_n 1 dX11_mostWith_4 rfl rfl ?_
  obtain ⟨S21, hS21, h⟩ := b1_some h
  refine r_callVv (k := 27) (rest := []) (by omega) (mX6_seeOnly hS21) sX_27 rfl rfl cb_X6_seeOnly ml_X11_184 im_X6_seeOnly se_X6_seeOnly rfl rfl (Nat.le_of_ble_eq_true rfl) dX11_mostWith_5 ?_
  refine r_aload_n 0 dX11_mostWith_8 rfl rfl ?_
  refine r_getC (k := 0) (j := 3) (r := 27) sX_0 rfl fl_X11_35 dX11_mostWith_9 ?_
  refine r_iconst (v := 0) dX11_mostWith_12 rfl ?_
  refine r_iconst (v := 0) dX11_mostWith_13 rfl ?_
  refine r_aload_n 0 dX11_mostWith_14 rfl rfl ?_
  refine r_getC (k := 0) (j := 0) (r := 1) sX_0 rfl fl_X11_10 dX11_mostWith_15 ?_
  refine r_getI (k := 1) (j := 0) sX_1 rfl fl_X11_216 dX11_mostWith_18 ?_
  refine r_aload_n 0 dX11_mostWith_21 rfl rfl ?_
  refine r_getC (k := 0) (j := 0) (r := 1) sX_0 rfl fl_X11_10 dX11_mostWith_22 ?_
  refine r_getI (k := 1) (j := 1) sX_1 rfl fl_X11_218 dX11_mostWith_25 ?_
  obtain ⟨q22, hq22, h⟩ := b1_some h
  refine r_callVi (k := 27) (rest := []) (by omega) (mX6_weigh hq22) sX_27 rfl rfl cb_X6_weigh ml_X11_188 im_X6_weigh se_X6_weigh rfl rfl (Nat.le_of_ble_eq_true rfl) dX11_mostWith_28 ?_
  obtain rfl := Option.some.inj h
  exact r_ireturn rfl dX11_mostWith_31 (hp)
theorem mX11_mostWith {G : Gx} {S : St} {v1 : Int64} {o : (Int32 × St)}  (h : fX11_mostWith S v1 = some o) : MR_ G shX 5 yX11_mostWith cX11_mostWith 3 (some .int) [.ref (ad_ G 0), .long v1] S (PI_ o.1 o.2) := MR_of cb_X11_mostWith (Nat.le_of_ble_eq_true rfl) [(0, .ref (ad_ G 0)), (1, .long v1)] rfl (tX11_mostWith  h ⟨rfl, rfl⟩)
set_option maxRecDepth 100000 in
set_option maxHeartbeats 4000000 in
theorem tX6_tallyBlock {G : Gx} {post : Option Value → St → Prop} {S : St} {v1 : Int32} {v2 : Int32} {o : (Int32 × St)}  (h : fX6_tallyBlock S v1 v2 = some o) (hp : post (some (.int o.1)) o.2) : Rn G shX 4 yX6_tallyBlock cX6_tallyBlock 10 (some .int) 0 [(0, .ref (ad_ G 27)), (1, .int v1), (2, .int v2)] [] S post := by
  unfold fX6_tallyBlock at h
  refine r_iload_n 1 dX6_tallyBlock_0 rfl rfl ?_
  refine r_bipush (v := 7) dX6_tallyBlock_1 rfl ?_
  refine r_iand dX6_tallyBlock_3 ?_
  refine r_istore_n (i := 3) [(0, .ref (ad_ G 27)), (1, .int v1), (2, .int v2), (3, .int (v1 &&& 7))] [1, 2, 3, 0] dX6_tallyBlock_4 rfl (by decide) rfl ?_
  refine r_iload_n 1 dX6_tallyBlock_5 rfl rfl ?_
  refine r_iconst (v := 3) dX6_tallyBlock_6 rfl ?_
  refine r_ishr dX6_tallyBlock_7 ?_
  refine r_bipush (v := 7) dX6_tallyBlock_8 rfl ?_
  refine r_iand dX6_tallyBlock_10 ?_
  obtain ⟨x21, hx21, h⟩ := b1_some h
  rw [Option.some.inj hx21]
  refine r_istore (i := 4) [(0, .ref (ad_ G 27)), (1, .int v1), (2, .int v2), (3, .int (v1 &&& 7)), (4, .int x21)] [1, 2, 3, 4, 0] dX6_tallyBlock_11 (by decide) rfl ?_
  refine r_iload_n 1 dX6_tallyBlock_13 rfl rfl ?_
  refine r_bipush (v := 6) dX6_tallyBlock_14 rfl ?_
  refine r_ishr dX6_tallyBlock_16 ?_
  refine r_bipush (v := 7) dX6_tallyBlock_17 rfl ?_
  refine r_iand dX6_tallyBlock_19 ?_
  refine r_iconst (v := 1) dX6_tallyBlock_20 rfl ?_
  refine r_iadd dX6_tallyBlock_21 ?_
  obtain ⟨x22, hx22, h⟩ := b1_some h
  rw [Option.some.inj hx22]
  refine r_istore (i := 5) [(0, .ref (ad_ G 27)), (1, .int v1), (2, .int v2), (3, .int (v1 &&& 7)), (4, .int x21), (5, .int x22)] [1, 2, 3, 4, 5, 0] dX6_tallyBlock_22 (by decide) rfl ?_
  refine r_iload_n 1 dX6_tallyBlock_24 rfl rfl ?_
  refine r_bipush (v := 9) dX6_tallyBlock_25 rfl ?_
  refine r_ishr dX6_tallyBlock_27 ?_
  refine r_bipush (v := 7) dX6_tallyBlock_28 rfl ?_
  refine r_iand dX6_tallyBlock_30 ?_
  refine r_iconst (v := 1) dX6_tallyBlock_31 rfl ?_
  refine r_iadd dX6_tallyBlock_32 ?_
  obtain ⟨x23, hx23, h⟩ := b1_some h
  rw [Option.some.inj hx23]
  refine r_istore (i := 6) [(0, .ref (ad_ G 27)), (1, .int v1), (2, .int v2), (3, .int (v1 &&& 7)), (4, .int x21), (5, .int x22), (6, .int x23)] [1, 2, 3, 4, 5, 6, 0] dX6_tallyBlock_33 (by decide) rfl ?_
  refine r_aload_n 0 dX6_tallyBlock_35 rfl rfl ?_
  refine r_iload_n 3 dX6_tallyBlock_36 rfl rfl ?_
  refine r_iload 4 dX6_tallyBlock_37 rfl ?_
  refine r_iload 6 dX6_tallyBlock_39 rfl ?_
  refine r_iload 5 dX6_tallyBlock_41 rfl ?_
  obtain ⟨x24, hx24, h⟩ := b1_some h
  refine r_callVi (k := 27) (rest := []) (by omega) (mX6_decide hx24) sX_27 rfl rfl cb_X6_decide ml_X6_142 im_X6_decide se_X6_decide rfl rfl (Nat.le_of_ble_eq_true rfl) dX6_tallyBlock_43 ?_
  refine r_istore (i := 7) [(0, .ref (ad_ G 27)), (1, .int v1), (2, .int v2), (3, .int (v1 &&& 7)), (4, .int x21), (5, .int x22), (6, .int x23), (7, .int x24)] [1, 2, 3, 4, 5, 6, 7, 0] dX6_tallyBlock_46 (by decide) rfl ?_
  refine r_iload 7 dX6_tallyBlock_48 rfl ?_
  refine r_bipush (v := (-5)) dX6_tallyBlock_50 rfl ?_
  refine r_icmp_ne 71 dX6_tallyBlock_52 (by decide) (fun c46 => ?_) (fun c46 => ?_)
  · rw [if_neg c46] at h
    refine r_iload 7 dX6_tallyBlock_71 rfl ?_
    refine r_bipush (v := 100) dX6_tallyBlock_73 rfl ?_
    refine r_icmp_ge 101 dX6_tallyBlock_75 (by decide) (fun c44 => ?_) (fun c44 => ?_)
    · rw [if_pos c44] at h
      refine r_aload_n 0 dX6_tallyBlock_101 rfl rfl ?_
      refine r_dup dX6_tallyBlock_102 rfl ?_
      refine r_getI (k := 27) (j := 12) sX_27 rfl fl_X6_44 dX6_tallyBlock_103 ?_
      refine r_iconst (v := 1) dX6_tallyBlock_106 rfl ?_
      refine r_iadd dX6_tallyBlock_107 ?_
      obtain ⟨S25, hS25, h⟩ := b1_some h
      refine r_setI (k := 27) (j := 12) sX_27 rfl pf_X6_44 hS25 dX6_tallyBlock_108 ?_
      refine r_iload_n 2 dX6_tallyBlock_111 rfl rfl ?_
      refine r_iconst (v := 2) dX6_tallyBlock_112 rfl ?_
      refine r_iadd dX6_tallyBlock_113 ?_
      refine r_bipush (v := 64) dX6_tallyBlock_114 rfl ?_
      refine r_icmp_le 121 dX6_tallyBlock_116 (by decide) (fun c40 => ?_) (fun c40 => ?_)
      · rw [if_pos c40] at h
        refine r_iload 7 dX6_tallyBlock_121 rfl ?_
        refine r_sipush (v := 200) dX6_tallyBlock_123 rfl ?_
        obtain ⟨w26, hw26, h⟩ := b1_some h
        have hJ : Rn G shX 4 yX6_tallyBlock cX6_tallyBlock 10 (some .int) 134 [(0, .ref (ad_ G 27)), (2, .int v2), (3, .int (v1 &&& 7)), (4, .int x21), (5, .int x22), (6, .int x23), (7, .int x24)] [.int w26] S25 post := by
          refine r_istore (i := 8) [(0, .ref (ad_ G 27)), (2, .int v2), (3, .int (v1 &&& 7)), (4, .int x21), (5, .int x22), (6, .int x23), (7, .int x24), (8, .int w26)] [1, 2, 3, 4, 5, 6, 7, 0] dX6_tallyBlock_134 (by decide) rfl ?_
          refine r_iload 7 dX6_tallyBlock_136 rfl ?_
          obtain ⟨w27, hw27, h⟩ := b1_some h
          have hJ : Rn G shX 4 yX6_tallyBlock cX6_tallyBlock 10 (some .int) 155 [(0, .ref (ad_ G 27)), (2, .int v2), (3, .int (v1 &&& 7)), (4, .int x21), (5, .int x22), (6, .int x23), (8, .int w26)] [.int w27] S25 post := by
            refine r_istore (i := 9) [(0, .ref (ad_ G 27)), (2, .int v2), (3, .int (v1 &&& 7)), (4, .int x21), (5, .int x22), (6, .int x23), (8, .int w26), (9, .int w27)] [1, 2, 3, 4, 5, 6, 7, 0] dX6_tallyBlock_155 (by decide) rfl ?_
            refine r_aload_n 0 dX6_tallyBlock_157 rfl rfl ?_
            refine r_getC (k := 27) (j := 9) (r := 34) sX_27 rfl fl_X6_35 dX6_tallyBlock_158 ?_
            refine r_iload_n 1 dX6_tallyBlock_161 rfl rfl ?_
            refine r_iload 6 dX6_tallyBlock_162 rfl ?_
            obtain ⟨w28, hw28, h⟩ := b1_some h
            have hJ : Rn G shX 4 yX6_tallyBlock cX6_tallyBlock 10 (some .int) 190 [(0, .ref (ad_ G 27)), (2, .int v2), (3, .int (v1 &&& 7)), (4, .int x21), (5, .int x22), (6, .int x23), (8, .int w26), (9, .int w27)] [.int w28, .int v2, .ref (ad_ G 34)] S25 post := by
              obtain ⟨S29, hS29, h⟩ := b1_some h
              refine r_iastore sX_34 hS29 dX6_tallyBlock_190 ?_
              refine r_aload_n 0 dX6_tallyBlock_191 rfl rfl ?_
              refine r_getC (k := 27) (j := 9) (r := 34) sX_27 rfl fl_X6_35 dX6_tallyBlock_192 ?_
              refine r_iload_n 1 dX6_tallyBlock_195 rfl rfl ?_
              refine r_iconst (v := 1) dX6_tallyBlock_196 rfl ?_
              refine r_iadd dX6_tallyBlock_197 ?_
              refine r_iload 6 dX6_tallyBlock_198 rfl ?_
              refine r_if_eq 222 dX6_tallyBlock_200 (by decide) (fun c34 => ?_) (fun c34 => ?_)
              · rw [if_pos c34] at h
                refine r_iload_n 2 dX6_tallyBlock_222 rfl rfl ?_
                refine r_iload 3 dX6_tallyBlock_223 rfl ?_
                refine r_iload 7 dX6_tallyBlock_225 rfl ?_
                refine r_iadd dX6_tallyBlock_227 ?_
                refine r_iload 5 dX6_tallyBlock_228 rfl ?_
                refine r_iload 4 dX6_tallyBlock_230 rfl ?_
                refine r_iload 7 dX6_tallyBlock_232 rfl ?_
                refine r_isub dX6_tallyBlock_234 ?_
                obtain ⟨x30, hx30, h⟩ := b1_some h
                refine r_callSi (rest := [.int (v2 + 1), .ref (ad_ G 34)]) (by omega) (mX6_placeOf hx30) cb_X6_placeOf ml_X6_68 sm_X6_placeOf rfl rfl (Nat.le_of_ble_eq_true rfl) dX6_tallyBlock_235 ?_
                obtain ⟨S31, hS31, h⟩ := b1_some h
                refine r_iastore sX_34 hS31 dX6_tallyBlock_238 ?_
                refine r_iload_n 1 dX6_tallyBlock_239 rfl rfl ?_
                refine r_iconst (v := 2) dX6_tallyBlock_240 rfl ?_
                refine r_iadd dX6_tallyBlock_241 ?_
                obtain rfl := Option.some.inj h
                exact r_ireturn rfl dX6_tallyBlock_242 (hp)
              · rw [if_neg c34] at h
                refine r_iload_n 2 dX6_tallyBlock_203 rfl rfl ?_
                refine r_iload 7 dX6_tallyBlock_204 rfl ?_
                refine r_iadd dX6_tallyBlock_206 ?_
                refine r_iload 3 dX6_tallyBlock_207 rfl ?_
                refine r_iload 5 dX6_tallyBlock_209 rfl ?_
                refine r_iload 7 dX6_tallyBlock_211 rfl ?_
                refine r_isub dX6_tallyBlock_213 ?_
                refine r_iload 4 dX6_tallyBlock_214 rfl ?_
                obtain ⟨x32, hx32, h⟩ := b1_some h
                refine r_callSi (rest := [.int (v2 + 1), .ref (ad_ G 34)]) (by omega) (mX6_placeOf hx32) cb_X6_placeOf ml_X6_68 sm_X6_placeOf rfl rfl (Nat.le_of_ble_eq_true rfl) dX6_tallyBlock_216 ?_
                refine r_goto 238 dX6_tallyBlock_219 (by decide) ?_
                obtain ⟨S33, hS33, h⟩ := b1_some h
                refine r_iastore sX_34 hS33 dX6_tallyBlock_238 ?_
                refine r_iload_n 1 dX6_tallyBlock_239 rfl rfl ?_
                refine r_iconst (v := 2) dX6_tallyBlock_240 rfl ?_
                refine r_iadd dX6_tallyBlock_241 ?_
                obtain rfl := Option.some.inj h
                exact r_ireturn rfl dX6_tallyBlock_242 (hp)
            clear h
            replace h := hw28
            refine r_if_eq 180 dX6_tallyBlock_164 (by decide) (fun c37 => ?_) (fun c37 => ?_)
            · rw [if_pos c37] at h
              refine r_iload_n 2 dX6_tallyBlock_180 rfl rfl ?_
              refine r_iload 3 dX6_tallyBlock_181 rfl ?_
              refine r_iload 5 dX6_tallyBlock_183 rfl ?_
              refine r_iload 7 dX6_tallyBlock_185 rfl ?_
              obtain ⟨x35, hx35, h⟩ := b1_some h
              refine r_callSi (rest := [.int v2, .ref (ad_ G 34)]) (by omega) (mX6_placeOf hx35) cb_X6_placeOf ml_X6_68 sm_X6_placeOf rfl rfl (Nat.le_of_ble_eq_true rfl) dX6_tallyBlock_187 ?_
              obtain rfl := Option.some.inj h
              exact hJ
            · rw [if_neg c37] at h
              refine r_iload_n 2 dX6_tallyBlock_167 rfl rfl ?_
              refine r_iload 3 dX6_tallyBlock_168 rfl ?_
              refine r_iload 7 dX6_tallyBlock_170 rfl ?_
              refine r_iload 4 dX6_tallyBlock_172 rfl ?_
              obtain ⟨x36, hx36, h⟩ := b1_some h
              refine r_callSi (rest := [.int v2, .ref (ad_ G 34)]) (by omega) (mX6_placeOf hx36) cb_X6_placeOf ml_X6_68 sm_X6_placeOf rfl rfl (Nat.le_of_ble_eq_true rfl) dX6_tallyBlock_174 ?_
              refine r_goto 190 dX6_tallyBlock_177 (by decide) ?_
              obtain rfl := Option.some.inj h
              exact hJ
          clear h
          replace h := hw27
          refine r_if_eq 149 dX6_tallyBlock_138 (by decide) (fun c38 => ?_) (fun c38 => ?_)
          · rw [if_pos c38] at h
            refine r_iload 6 dX6_tallyBlock_149 rfl ?_
            refine r_sipush (v := 200) dX6_tallyBlock_151 rfl ?_
            refine r_isub dX6_tallyBlock_154 ?_
            refine r_sub [(0, .ref (ad_ G 27)), (2, .int v2), (3, .int (v1 &&& 7)), (4, .int x21), (5, .int x22), (6, .int x23), (8, .int w26)] [0, 1, 2, 3, 4, 5, 7] rfl ?_
            obtain rfl := Option.some.inj h
            exact hJ
          · rw [if_neg c38] at h
            refine r_iload 6 dX6_tallyBlock_141 rfl ?_
            refine r_bipush (v := 100) dX6_tallyBlock_143 rfl ?_
            refine r_isub dX6_tallyBlock_145 ?_
            refine r_goto 155 dX6_tallyBlock_146 (by decide) ?_
            refine r_sub [(0, .ref (ad_ G 27)), (2, .int v2), (3, .int (v1 &&& 7)), (4, .int x21), (5, .int x22), (6, .int x23), (8, .int w26)] [0, 1, 2, 3, 4, 5, 7] rfl ?_
            obtain rfl := Option.some.inj h
            exact hJ
        clear h
        replace h := hw26
        refine r_icmp_ge 133 dX6_tallyBlock_126 (by decide) (fun c39 => ?_) (fun c39 => ?_)
        · rw [if_pos c39] at h
          refine r_iconst (v := 0) dX6_tallyBlock_133 rfl ?_
          refine r_sub [(0, .ref (ad_ G 27)), (2, .int v2), (3, .int (v1 &&& 7)), (4, .int x21), (5, .int x22), (6, .int x23), (7, .int x24)] [0, 2, 3, 4, 5, 6, 7] rfl ?_
          obtain rfl := Option.some.inj h
          exact hJ
        · rw [if_neg c39] at h
          refine r_iconst (v := 1) dX6_tallyBlock_129 rfl ?_
          refine r_goto 134 dX6_tallyBlock_130 (by decide) ?_
          refine r_sub [(0, .ref (ad_ G 27)), (2, .int v2), (3, .int (v1 &&& 7)), (4, .int x21), (5, .int x22), (6, .int x23), (7, .int x24)] [0, 2, 3, 4, 5, 6, 7] rfl ?_
          obtain rfl := Option.some.inj h
          exact hJ
      · rw [if_neg c40] at h
        refine r_iload_n 2 dX6_tallyBlock_119 rfl rfl ?_
        obtain rfl := Option.some.inj h
        exact r_ireturn rfl dX6_tallyBlock_120 (hp)
    · rw [if_neg c44] at h
      refine r_aload_n 0 dX6_tallyBlock_78 rfl rfl ?_
      refine r_dup dX6_tallyBlock_79 rfl ?_
      refine r_getI (k := 27) (j := 11) sX_27 rfl fl_X6_41 dX6_tallyBlock_80 ?_
      refine r_iconst (v := 1) dX6_tallyBlock_83 rfl ?_
      refine r_iadd dX6_tallyBlock_84 ?_
      obtain ⟨S41, hS41, h⟩ := b1_some h
      refine r_setI (k := 27) (j := 11) sX_27 rfl pf_X6_41 hS41 dX6_tallyBlock_85 ?_
      refine r_aload_n 0 dX6_tallyBlock_88 rfl rfl ?_
      refine r_getC (k := 27) (j := 10) (r := 35) sX_27 rfl fl_X6_38 dX6_tallyBlock_89 ?_
      refine r_iload 7 dX6_tallyBlock_92 rfl ?_
      refine r_dup2_11 dX6_tallyBlock_94 rfl rfl ?_
      obtain ⟨x42, hx42, h⟩ := b1_some h
      refine r_iaload sX_35 hx42 dX6_tallyBlock_95 ?_
      refine r_iconst (v := 1) dX6_tallyBlock_96 rfl ?_
      refine r_iadd dX6_tallyBlock_97 ?_
      obtain ⟨S43, hS43, h⟩ := b1_some h
      refine r_iastore sX_35 hS43 dX6_tallyBlock_98 ?_
      refine r_iload_n 2 dX6_tallyBlock_99 rfl rfl ?_
      obtain rfl := Option.some.inj h
      exact r_ireturn rfl dX6_tallyBlock_100 (hp)
  · rw [if_pos c46] at h
    refine r_aload_n 0 dX6_tallyBlock_55 rfl rfl ?_
    refine r_dup dX6_tallyBlock_56 rfl ?_
    refine r_getI (k := 27) (j := 13) sX_27 rfl fl_X6_47 dX6_tallyBlock_57 ?_
    refine r_iload 6 dX6_tallyBlock_60 rfl ?_
    refine r_iload 5 dX6_tallyBlock_62 rfl ?_
    refine r_imul dX6_tallyBlock_64 ?_
    refine r_iadd dX6_tallyBlock_65 ?_
    obtain ⟨S45, hS45, h⟩ := b1_some h
    refine r_setI (k := 27) (j := 13) sX_27 rfl pf_X6_47 hS45 dX6_tallyBlock_66 ?_
    refine r_iload_n 2 dX6_tallyBlock_69 rfl rfl ?_
    obtain rfl := Option.some.inj h
    exact r_ireturn rfl dX6_tallyBlock_70 (hp)
theorem mX6_tallyBlock {G : Gx} {S : St} {v1 : Int32} {v2 : Int32} {o : (Int32 × St)}  (h : fX6_tallyBlock S v1 v2 = some o) : MR_ G shX 4 yX6_tallyBlock cX6_tallyBlock 10 (some .int) [.ref (ad_ G 27), .int v1, .int v2] S (PI_ o.1 o.2) := MR_of cb_X6_tallyBlock (Nat.le_of_ble_eq_true rfl) [(0, .ref (ad_ G 27)), (1, .int v1), (2, .int v2)] rfl (tX6_tallyBlock  h ⟨rfl, rfl⟩)
