set_option maxRecDepth 100000 in
set_option maxHeartbeats 4000000 in
theorem tX12_bringsOf {G : Gx} {post : Option Value → St → Prop} {S : St} {v1 : Int32} {v2 : Int32} {v3 : Int32} {v4 : Int32} {v5 : Int32} {v6 : Int32} {o : Int32}  (h : fX12_bringsOf S v1 v2 v3 v4 v5 v6 = some o) (hp : post (some (.int o)) S) : Rn G shM 2 yX12_bringsOf cX12_bringsOf 9 (some .int) 0 [(0, .ref (ad_ G 0)), (1, .int v1), (2, .int v2), (3, .int v3), (4, .int v4), (5, .int v5), (6, .int v6)] [] S post := by
  unfold fX12_bringsOf at h
  refine r_aload_n 0 dX12_bringsOf_0 rfl rfl ?_
  refine r_iload 5 dX12_bringsOf_1 rfl ?_
  refine r_iload_n 3 dX12_bringsOf_3 rfl rfl ?_
  refine r_iload 4 dX12_bringsOf_4 rfl ?_
  obtain ⟨x21, hx21, h⟩ := b1_some h
  refine r_callVi (k := 0) (rest := []) (by omega) (mX12_isOfSize hx21) sM_0 rfl rfl cb_X12_isOfSize ml_X12_174 im_X12_isOfSize se_X12_isOfSize rfl rfl (Nat.le_of_ble_eq_true rfl) dX12_bringsOf_6 ?_
  refine r_if_ne 15 dX12_bringsOf_9 (by decide) (fun c34 => ?_) (fun c34 => ?_)
  · rw [if_neg c34] at h
    refine r_iload 6 dX12_bringsOf_15 rfl ?_
    refine r_bipush (v := (-2)) dX12_bringsOf_17 rfl ?_
    refine r_icmp_eq 51 dX12_bringsOf_19 (by decide) (fun c33 => ?_) (fun c33 => ?_)
    · rw [if_pos c33] at h
      refine r_iconst (v := 0) dX12_bringsOf_51 rfl ?_
      refine r_istore (i := 7) [(0, .ref (ad_ G 0)), (1, .int v1), (2, .int v2), (3, .int v3), (4, .int v4), (5, .int v5), (6, .int v6), (7, .int 0)] [1, 2, 3, 4, 5, 6, 7, 0] dX12_bringsOf_52 (by decide) rfl ?_
      refine r_iconst (v := 0) dX12_bringsOf_54 rfl ?_
      refine r_istore (i := 8) [(0, .ref (ad_ G 0)), (1, .int v1), (2, .int v2), (3, .int v3), (4, .int v4), (5, .int v5), (6, .int v6), (7, .int 0), (8, .int 0)] [1, 2, 3, 4, 5, 6, 7, 8, 0] dX12_bringsOf_55 (by decide) rfl ?_
      refine r_sub [(0, .ref (ad_ G 0)), (1, .int v1), (2, .int v2), (3, .int v3), (4, .int v4), (5, .int v5), (7, .int 0), (8, .int 0)] [0, 1, 2, 3, 4, 5, 7, 8] rfl ?_
      have key : ∀ ex, lp (fun w22 : Int32 × Int32 => bX12_bringsOf_57 S v1 v2 v3 v4 v5 w22.1 w22.2) 5000 (0, 0) = some ex → (fun u29 : Int32 => Rn G shM 2 yX12_bringsOf cX12_bringsOf 9 (some .int) 104 [(7, .int u29)] [] S post) ex → Rn G shM 2 yX12_bringsOf cX12_bringsOf 9 (some .int) 57 [(0, .ref (ad_ G 0)), (1, .int v1), (2, .int v2), (3, .int v3), (4, .int v4), (5, .int v5), (7, .int 0), (8, .int 0)] [] S post := by
        intro ex hl hx
        refine lp_rule (body := (fun w22 : Int32 × Int32 => bX12_bringsOf_57 S v1 v2 v3 v4 v5 w22.1 w22.2)) (R := (fun w22 : Int32 × Int32 => Rn G shM 2 yX12_bringsOf cX12_bringsOf 9 (some .int) 57 [(0, .ref (ad_ G 0)), (1, .int v1), (2, .int v2), (3, .int v3), (4, .int v4), (5, .int v5), (7, .int w22.1), (8, .int w22.2)] [] S post)) (X := (fun u29 : Int32 => Rn G shM 2 yX12_bringsOf cX12_bringsOf 9 (some .int) 104 [(7, .int u29)] [] S post)) ?_ 5000 (0, 0) ex hl hx
        intro w22 oo h hB hX
        obtain ⟨v23, v24⟩ := w22
        replace h : bX12_bringsOf_57 S v1 v2 v3 v4 v5 v23 v24 = some oo := h
        unfold bX12_bringsOf_57 at h
        show Rn G shM 2 yX12_bringsOf cX12_bringsOf 9 (some .int) 57 [(0, .ref (ad_ G 0)), (1, .int v1), (2, .int v2), (3, .int v3), (4, .int v4), (5, .int v5), (7, .int v23), (8, .int v24)] [] S post
        refine r_iload 7 dX12_bringsOf_57 rfl ?_
        refine r_aload_n 0 dX12_bringsOf_59 rfl rfl ?_
        refine r_getI (k := 0) (j := 4) sM_0 rfl fl_X12_158 dX12_bringsOf_60 ?_
        refine r_icmp_ge 104 dX12_bringsOf_63 (by decide) (fun c28 => ?_) (fun c28 => ?_)
        · rw [if_pos c28] at h
          refine r_sub [(7, .int v23)] [6] rfl ?_
          obtain rfl := Option.some.inj h
          exact hX v23 rfl
        · rw [if_neg c28] at h
          refine r_iload 6 dX12_bringsOf_66 rfl ?_
          refine r_aload_n 0 dX12_bringsOf_68 rfl rfl ?_
          refine r_iload_n 1 dX12_bringsOf_69 rfl rfl ?_
          refine r_iload_n 2 dX12_bringsOf_70 rfl rfl ?_
          refine r_iload_n 3 dX12_bringsOf_71 rfl rfl ?_
          refine r_iload 4 dX12_bringsOf_72 rfl ?_
          refine r_iload 5 dX12_bringsOf_74 rfl ?_
          refine r_iload 7 dX12_bringsOf_76 rfl ?_
          obtain ⟨x25, hx25, h⟩ := b1_some h
          refine r_callVi (k := 0) (rest := [.int v23]) (by omega) (mX12_doesFit hx25) sM_0 rfl rfl cb_X12_doesFit ml_X12_194 im_X12_doesFit se_X12_doesFit rfl rfl (Nat.le_of_ble_eq_true rfl) dX12_bringsOf_78 ?_
          refine r_if_eq 94 dX12_bringsOf_81 (by decide) (fun c27 => ?_) (fun c27 => ?_)
          · rw [if_pos c27] at h
            refine r_iconst (v := 0) dX12_bringsOf_94 rfl ?_
            refine r_iadd dX12_bringsOf_95 ?_
            refine r_istore (i := 7) [(0, .ref (ad_ G 0)), (1, .int v1), (2, .int v2), (3, .int v3), (4, .int v4), (5, .int v5), (7, .int (v23 + 0)), (8, .int v24)] [1, 2, 3, 4, 5, 6, 0, 7] dX12_bringsOf_96 (by decide) rfl ?_
            refine r_iinc (v := v24 + 1) [(0, .ref (ad_ G 0)), (1, .int v1), (2, .int v2), (3, .int v3), (4, .int v4), (5, .int v5), (7, .int (v23 + 0)), (8, .int (v24 + 1))] 7 [1, 2, 3, 4, 5, 6, 7, 0] dX12_bringsOf_98 rfl rfl (by decide) rfl ?_
            refine r_goto 57 dX12_bringsOf_101 (by decide) ?_
            obtain rfl := Option.some.inj h
            exact hB (v23 + 0, v24 + 1) rfl
          · rw [if_neg c27] at h
            refine r_aload_n 0 dX12_bringsOf_84 rfl rfl ?_
            refine r_getC (k := 0) (j := 12) (r := 8) sM_0 rfl fl_X12_39 dX12_bringsOf_85 ?_
            refine r_iload 5 dX12_bringsOf_88 rfl ?_
            obtain ⟨x26, hx26, h⟩ := b1_some h
            refine r_iaload sM_8 hx26 dX12_bringsOf_90 ?_
            refine r_goto 95 dX12_bringsOf_91 (by decide) ?_
            refine r_iadd dX12_bringsOf_95 ?_
            refine r_istore (i := 7) [(0, .ref (ad_ G 0)), (1, .int v1), (2, .int v2), (3, .int v3), (4, .int v4), (5, .int v5), (7, .int (v23 + x26)), (8, .int v24)] [1, 2, 3, 4, 5, 6, 0, 7] dX12_bringsOf_96 (by decide) rfl ?_
            refine r_iinc (v := v24 + 1) [(0, .ref (ad_ G 0)), (1, .int v1), (2, .int v2), (3, .int v3), (4, .int v4), (5, .int v5), (7, .int (v23 + x26)), (8, .int (v24 + 1))] 7 [1, 2, 3, 4, 5, 6, 7, 0] dX12_bringsOf_98 rfl rfl (by decide) rfl ?_
            refine r_goto 57 dX12_bringsOf_101 (by decide) ?_
            obtain rfl := Option.some.inj h
            exact hB (v23 + x26, v24 + 1) rfl
      obtain ⟨u29, hu29, h⟩ := b1_some h
      refine key u29 hu29 ?_
      show Rn G shM 2 yX12_bringsOf cX12_bringsOf 9 (some .int) 104 [(7, .int u29)] [] S post
      refine r_iload 0 dX12_bringsOf_104 rfl ?_
      obtain rfl := Option.some.inj h
      exact r_ireturn rfl dX12_bringsOf_106 (hp)
    · rw [if_neg c33] at h
      refine r_aload_n 0 dX12_bringsOf_22 rfl rfl ?_
      refine r_iload_n 1 dX12_bringsOf_23 rfl rfl ?_
      refine r_iload_n 2 dX12_bringsOf_24 rfl rfl ?_
      refine r_iload_n 3 dX12_bringsOf_25 rfl rfl ?_
      refine r_iload 4 dX12_bringsOf_26 rfl ?_
      refine r_iload 5 dX12_bringsOf_28 rfl ?_
      refine r_iload 6 dX12_bringsOf_30 rfl ?_
      obtain ⟨x30, hx30, h⟩ := b1_some h
      refine r_callVi (k := 0) (rest := []) (by omega) (mX12_doesFit hx30) sM_0 rfl rfl cb_X12_doesFit ml_X12_194 im_X12_doesFit se_X12_doesFit rfl rfl (Nat.le_of_ble_eq_true rfl) dX12_bringsOf_32 ?_
      refine r_if_eq 48 dX12_bringsOf_35 (by decide) (fun c32 => ?_) (fun c32 => ?_)
      · rw [if_pos c32] at h
        refine r_bipush (v := (-4)) dX12_bringsOf_48 rfl ?_
        obtain rfl := Option.some.inj h
        exact r_ireturn rfl dX12_bringsOf_50 (hp)
      · rw [if_neg c32] at h
        refine r_aload_n 0 dX12_bringsOf_38 rfl rfl ?_
        refine r_getC (k := 0) (j := 12) (r := 8) sM_0 rfl fl_X12_39 dX12_bringsOf_39 ?_
        refine r_iload 5 dX12_bringsOf_42 rfl ?_
        obtain ⟨x31, hx31, h⟩ := b1_some h
        refine r_iaload sM_8 hx31 dX12_bringsOf_44 ?_
        refine r_goto 50 dX12_bringsOf_45 (by decide) ?_
        obtain rfl := Option.some.inj h
        exact r_ireturn rfl dX12_bringsOf_50 (hp)
  · rw [if_pos c34] at h
    refine r_bipush (v := (-4)) dX12_bringsOf_12 rfl ?_
    obtain rfl := Option.some.inj h
    exact r_ireturn rfl dX12_bringsOf_14 (hp)
theorem mX12_bringsOf {G : Gx} {S : St} {v1 : Int32} {v2 : Int32} {v3 : Int32} {v4 : Int32} {v5 : Int32} {v6 : Int32} {o : Int32}  (h : fX12_bringsOf S v1 v2 v3 v4 v5 v6 = some o) : MR_ G shM 2 yX12_bringsOf cX12_bringsOf 9 (some .int) [.ref (ad_ G 0), .int v1, .int v2, .int v3, .int v4, .int v5, .int v6] S (PI_ o S) := MR_of cb_X12_bringsOf (Nat.le_of_ble_eq_true rfl) [(0, .ref (ad_ G 0)), (1, .int v1), (2, .int v2), (3, .int v3), (4, .int v4), (5, .int v5), (6, .int v6)] rfl (tX12_bringsOf  h ⟨rfl, rfl⟩)
set_option maxRecDepth 100000 in
set_option maxHeartbeats 4000000 in
theorem tX12_fills {G : Gx} {post : Option Value → St → Prop} {S : St} {v1 : Int32} {o : St}  (h : fX12_fills S v1 = some o) (hp : post none o) : Rn G shM 3 yX12_fills cX12_fills 9 none 0 [(0, .ref (ad_ G 0)), (1, .int v1)] [] S post := by
  unfold fX12_fills at h
  refine r_iconst (v := 1) dX12_fills_0 rfl ?_
  refine r_istore_n (i := 2) [(0, .ref (ad_ G 0)), (1, .int v1), (2, .int 1)] [1, 2, 0] dX12_fills_1 rfl (by decide) rfl ?_
  have key : ∀ ex, lp (fun w21 : Int32 × St => bX12_fills_2 v1 w21.1 w21.2) 5000 (1, S) = some ex → (fun u69 : St => Rn G shM 3 yX12_fills cX12_fills 9 none 278 [] [] u69 post) ex → Rn G shM 3 yX12_fills cX12_fills 9 none 2 [(0, .ref (ad_ G 0)), (1, .int v1), (2, .int 1)] [] S post := by
    intro ex hl hx
    refine lp_rule (body := (fun w21 : Int32 × St => bX12_fills_2 v1 w21.1 w21.2)) (R := (fun w21 : Int32 × St => Rn G shM 3 yX12_fills cX12_fills 9 none 2 [(0, .ref (ad_ G 0)), (1, .int v1), (2, .int w21.1)] [] w21.2 post)) (X := (fun u69 : St => Rn G shM 3 yX12_fills cX12_fills 9 none 278 [] [] u69 post)) ?_ 5000 (1, S) ex hl hx
    intro w21 oo h hB hX
    obtain ⟨v22, S23⟩ := w21
    replace h : bX12_fills_2 v1 v22 S23 = some oo := h
    unfold bX12_fills_2 at h
    show Rn G shM 3 yX12_fills cX12_fills 9 none 2 [(0, .ref (ad_ G 0)), (1, .int v1), (2, .int v22)] [] S23 post
    refine r_iload_n 2 dX12_fills_2 rfl rfl ?_
    refine r_aload_n 0 dX12_fills_3 rfl rfl ?_
    refine r_getI (k := 0) (j := 1) sM_0 rfl fl_X12_13 dX12_fills_4 ?_
    refine r_icmp_gt 278 dX12_fills_7 (by decide) (fun c68 => ?_) (fun c68 => ?_)
    · rw [if_pos c68] at h
      refine r_sub [] [] rfl ?_
      obtain rfl := Option.some.inj h
      exact hX S23 rfl
    · rw [if_neg c68] at h
      refine r_iconst (v := 1) dX12_fills_10 rfl ?_
      refine r_istore_n (i := 3) [(0, .ref (ad_ G 0)), (1, .int v1), (2, .int v22), (3, .int 1)] [1, 2, 3, 0] dX12_fills_11 rfl (by decide) rfl ?_
      have key : ∀ ex, lp (fun w24 : Int32 × St => bX12_fills_12 v1 v22 w24.1 w24.2) 5000 (1, S23) = some ex → (fun u67 : St => Rn G shM 3 yX12_fills cX12_fills 9 none 272 [(0, .ref (ad_ G 0)), (1, .int v1), (2, .int v22)] [] u67 post) ex → Rn G shM 3 yX12_fills cX12_fills 9 none 12 [(0, .ref (ad_ G 0)), (1, .int v1), (2, .int v22), (3, .int 1)] [] S23 post := by
        intro ex hl hx
        refine lp_rule (body := (fun w24 : Int32 × St => bX12_fills_12 v1 v22 w24.1 w24.2)) (R := (fun w24 : Int32 × St => Rn G shM 3 yX12_fills cX12_fills 9 none 12 [(0, .ref (ad_ G 0)), (1, .int v1), (2, .int v22), (3, .int w24.1)] [] w24.2 post)) (X := (fun u67 : St => Rn G shM 3 yX12_fills cX12_fills 9 none 272 [(0, .ref (ad_ G 0)), (1, .int v1), (2, .int v22)] [] u67 post)) ?_ 5000 (1, S23) ex hl hx
        intro w24 oo h hB hX
        obtain ⟨v25, S26⟩ := w24
        replace h : bX12_fills_12 v1 v22 v25 S26 = some oo := h
        unfold bX12_fills_12 at h
        show Rn G shM 3 yX12_fills cX12_fills 9 none 12 [(0, .ref (ad_ G 0)), (1, .int v1), (2, .int v22), (3, .int v25)] [] S26 post
        refine r_iload_n 3 dX12_fills_12 rfl rfl ?_
        refine r_aload_n 0 dX12_fills_13 rfl rfl ?_
        refine r_getI (k := 0) (j := 0) sM_0 rfl fl_X12_7 dX12_fills_14 ?_
        refine r_icmp_gt 272 dX12_fills_17 (by decide) (fun c66 => ?_) (fun c66 => ?_)
        · rw [if_pos c66] at h
          refine r_sub [(0, .ref (ad_ G 0)), (1, .int v1), (2, .int v22)] [0, 1, 2] rfl ?_
          obtain rfl := Option.some.inj h
          exact hX S26 rfl
        · rw [if_neg c66] at h
          refine r_iconst (v := 0) dX12_fills_20 rfl ?_
          refine r_istore (i := 4) [(0, .ref (ad_ G 0)), (1, .int v1), (2, .int v22), (3, .int v25), (4, .int 0)] [1, 2, 3, 4, 0] dX12_fills_21 (by decide) rfl ?_
          have key : ∀ ex, lp (fun w27 : Int32 × St => bX12_fills_23 v1 v22 v25 w27.1 w27.2) 5000 (0, S26) = some ex → (fun u65 : St => Rn G shM 3 yX12_fills cX12_fills 9 none 266 [(0, .ref (ad_ G 0)), (1, .int v1), (2, .int v22), (3, .int v25)] [] u65 post) ex → Rn G shM 3 yX12_fills cX12_fills 9 none 23 [(0, .ref (ad_ G 0)), (1, .int v1), (2, .int v22), (3, .int v25), (4, .int 0)] [] S26 post := by
            intro ex hl hx
            refine lp_rule (body := (fun w27 : Int32 × St => bX12_fills_23 v1 v22 v25 w27.1 w27.2)) (R := (fun w27 : Int32 × St => Rn G shM 3 yX12_fills cX12_fills 9 none 23 [(0, .ref (ad_ G 0)), (1, .int v1), (2, .int v22), (3, .int v25), (4, .int w27.1)] [] w27.2 post)) (X := (fun u65 : St => Rn G shM 3 yX12_fills cX12_fills 9 none 266 [(0, .ref (ad_ G 0)), (1, .int v1), (2, .int v22), (3, .int v25)] [] u65 post)) ?_ 5000 (0, S26) ex hl hx
            intro w27 oo h hB hX
            obtain ⟨v28, S29⟩ := w27
            replace h : bX12_fills_23 v1 v22 v25 v28 S29 = some oo := h
            unfold bX12_fills_23 at h
            show Rn G shM 3 yX12_fills cX12_fills 9 none 23 [(0, .ref (ad_ G 0)), (1, .int v1), (2, .int v22), (3, .int v25), (4, .int v28)] [] S29 post
            refine r_iload 4 dX12_fills_23 rfl ?_
            refine r_iload_n 2 dX12_fills_25 rfl rfl ?_
            refine r_iadd dX12_fills_26 ?_
            refine r_aload_n 0 dX12_fills_27 rfl rfl ?_
            refine r_getI (k := 0) (j := 1) sM_0 rfl fl_X12_13 dX12_fills_28 ?_
            refine r_icmp_gt 266 dX12_fills_31 (by decide) (fun c64 => ?_) (fun c64 => ?_)
            · rw [if_pos c64] at h
              refine r_sub [(0, .ref (ad_ G 0)), (1, .int v1), (2, .int v22), (3, .int v25)] [0, 1, 2, 3] rfl ?_
              obtain rfl := Option.some.inj h
              exact hX S29 rfl
            · rw [if_neg c64] at h
              refine r_iconst (v := 0) dX12_fills_34 rfl ?_
              refine r_istore (i := 5) [(0, .ref (ad_ G 0)), (1, .int v1), (2, .int v22), (3, .int v25), (4, .int v28), (5, .int 0)] [1, 2, 3, 4, 5, 0] dX12_fills_35 (by decide) rfl ?_
              have key : ∀ ex, lp (fun w30 : Int32 × St => bX12_fills_37 v1 v22 v25 v28 w30.1 w30.2) 5000 (0, S29) = some ex → (fun u63 : St => Rn G shM 3 yX12_fills cX12_fills 9 none 260 [(0, .ref (ad_ G 0)), (1, .int v1), (2, .int v22), (3, .int v25), (4, .int v28)] [] u63 post) ex → Rn G shM 3 yX12_fills cX12_fills 9 none 37 [(0, .ref (ad_ G 0)), (1, .int v1), (2, .int v22), (3, .int v25), (4, .int v28), (5, .int 0)] [] S29 post := by
                intro ex hl hx
                refine lp_rule (body := (fun w30 : Int32 × St => bX12_fills_37 v1 v22 v25 v28 w30.1 w30.2)) (R := (fun w30 : Int32 × St => Rn G shM 3 yX12_fills cX12_fills 9 none 37 [(0, .ref (ad_ G 0)), (1, .int v1), (2, .int v22), (3, .int v25), (4, .int v28), (5, .int w30.1)] [] w30.2 post)) (X := (fun u63 : St => Rn G shM 3 yX12_fills cX12_fills 9 none 260 [(0, .ref (ad_ G 0)), (1, .int v1), (2, .int v22), (3, .int v25), (4, .int v28)] [] u63 post)) ?_ 5000 (0, S29) ex hl hx
                intro w30 oo h hB hX
                obtain ⟨v31, S32⟩ := w30
                replace h : bX12_fills_37 v1 v22 v25 v28 v31 S32 = some oo := h
                unfold bX12_fills_37 at h
                show Rn G shM 3 yX12_fills cX12_fills 9 none 37 [(0, .ref (ad_ G 0)), (1, .int v1), (2, .int v22), (3, .int v25), (4, .int v28), (5, .int v31)] [] S32 post
                refine r_iload 5 dX12_fills_37 rfl ?_
                refine r_iload_n 3 dX12_fills_39 rfl rfl ?_
                refine r_iadd dX12_fills_40 ?_
                refine r_aload_n 0 dX12_fills_41 rfl rfl ?_
                refine r_getI (k := 0) (j := 0) sM_0 rfl fl_X12_7 dX12_fills_42 ?_
                refine r_icmp_gt 260 dX12_fills_45 (by decide) (fun c62 => ?_) (fun c62 => ?_)
                · rw [if_pos c62] at h
                  refine r_sub [(0, .ref (ad_ G 0)), (1, .int v1), (2, .int v22), (3, .int v25), (4, .int v28)] [0, 1, 2, 3, 4] rfl ?_
                  obtain rfl := Option.some.inj h
                  exact hX S32 rfl
                · rw [if_neg c62] at h
                  refine r_iconst (v := 0) dX12_fills_48 rfl ?_
                  refine r_istore (i := 6) [(0, .ref (ad_ G 0)), (1, .int v1), (2, .int v22), (3, .int v25), (4, .int v28), (5, .int v31), (6, .int 0)] [1, 2, 3, 4, 5, 6, 0] dX12_fills_49 (by decide) rfl ?_
                  refine r_iconst (v := 0) dX12_fills_51 rfl ?_
                  refine r_istore (i := 7) [(0, .ref (ad_ G 0)), (1, .int v1), (2, .int v22), (3, .int v25), (4, .int v28), (5, .int v31), (6, .int 0), (7, .int 0)] [1, 2, 3, 4, 5, 6, 7, 0] dX12_fills_52 (by decide) rfl ?_
                  have key : ∀ ex, lp (fun w33 : Int32 × Int32 => bX12_fills_54 v1 v22 v25 v28 v31 S32 w33.1 w33.2) 5000 (0, 0) = some ex → (fun u39 : Int32 => Rn G shM 3 yX12_fills cX12_fills 9 none 100 [(0, .ref (ad_ G 0)), (1, .int v1), (2, .int v22), (3, .int v25), (4, .int v28), (5, .int v31), (6, .int u39)] [] S32 post) ex → Rn G shM 3 yX12_fills cX12_fills 9 none 54 [(0, .ref (ad_ G 0)), (1, .int v1), (2, .int v22), (3, .int v25), (4, .int v28), (5, .int v31), (6, .int 0), (7, .int 0)] [] S32 post := by
                    intro ex hl hx
                    refine lp_rule (body := (fun w33 : Int32 × Int32 => bX12_fills_54 v1 v22 v25 v28 v31 S32 w33.1 w33.2)) (R := (fun w33 : Int32 × Int32 => Rn G shM 3 yX12_fills cX12_fills 9 none 54 [(0, .ref (ad_ G 0)), (1, .int v1), (2, .int v22), (3, .int v25), (4, .int v28), (5, .int v31), (6, .int w33.1), (7, .int w33.2)] [] S32 post)) (X := (fun u39 : Int32 => Rn G shM 3 yX12_fills cX12_fills 9 none 100 [(0, .ref (ad_ G 0)), (1, .int v1), (2, .int v22), (3, .int v25), (4, .int v28), (5, .int v31), (6, .int u39)] [] S32 post)) ?_ 5000 (0, 0) ex hl hx
                    intro w33 oo h hB hX
                    obtain ⟨v34, v35⟩ := w33
                    replace h : bX12_fills_54 v1 v22 v25 v28 v31 S32 v34 v35 = some oo := h
                    unfold bX12_fills_54 at h
                    show Rn G shM 3 yX12_fills cX12_fills 9 none 54 [(0, .ref (ad_ G 0)), (1, .int v1), (2, .int v22), (3, .int v25), (4, .int v28), (5, .int v31), (6, .int v34), (7, .int v35)] [] S32 post
                    refine r_iload 7 dX12_fills_54 rfl ?_
                    refine r_aload_n 0 dX12_fills_56 rfl rfl ?_
                    refine r_getI (k := 0) (j := 9) sM_0 rfl fl_X12_166 dX12_fills_57 ?_
                    refine r_icmp_ge 100 dX12_fills_60 (by decide) (fun c38 => ?_) (fun c38 => ?_)
                    · rw [if_pos c38] at h
                      refine r_sub [(0, .ref (ad_ G 0)), (1, .int v1), (2, .int v22), (3, .int v25), (4, .int v28), (5, .int v31), (6, .int v34)] [0, 1, 2, 3, 4, 5, 6] rfl ?_
                      obtain rfl := Option.some.inj h
                      exact hX v34 rfl
                    · rw [if_neg c38] at h
                      refine r_aload_n 0 dX12_fills_63 rfl rfl ?_
                      refine r_iload 5 dX12_fills_64 rfl ?_
                      refine r_iload 4 dX12_fills_66 rfl ?_
                      refine r_iload_n 3 dX12_fills_68 rfl rfl ?_
                      refine r_iload_n 2 dX12_fills_69 rfl rfl ?_
                      refine r_iload 7 dX12_fills_70 rfl ?_
                      refine r_iload_n 1 dX12_fills_72 rfl rfl ?_
                      obtain ⟨x36, hx36, h⟩ := b1_some h
                      refine r_callVi (k := 0) (rest := []) (by omega) (mX12_bringsOf hx36) sM_0 rfl rfl cb_X12_bringsOf ml_X12_201 im_X12_bringsOf se_X12_bringsOf rfl rfl (Nat.le_of_ble_eq_true rfl) dX12_fills_73 ?_
                      refine r_istore (i := 8) [(0, .ref (ad_ G 0)), (1, .int v1), (2, .int v22), (3, .int v25), (4, .int v28), (5, .int v31), (6, .int v34), (7, .int v35), (8, .int x36)] [1, 2, 3, 4, 5, 6, 7, 8, 0] dX12_fills_76 (by decide) rfl ?_
                      refine r_iload 8 dX12_fills_78 rfl ?_
                      refine r_iload 6 dX12_fills_80 rfl ?_
                      refine r_icmp_le 90 dX12_fills_82 (by decide) (fun c37 => ?_) (fun c37 => ?_)
                      · rw [if_pos c37] at h
                        refine r_iload 6 dX12_fills_90 rfl ?_
                        refine r_istore (i := 6) [(0, .ref (ad_ G 0)), (1, .int v1), (2, .int v22), (3, .int v25), (4, .int v28), (5, .int v31), (6, .int v34), (7, .int v35), (8, .int x36)] [1, 2, 3, 4, 5, 6, 0, 7, 8] dX12_fills_92 (by decide) rfl ?_
                        refine r_iinc (v := v35 + 1) [(0, .ref (ad_ G 0)), (1, .int v1), (2, .int v22), (3, .int v25), (4, .int v28), (5, .int v31), (6, .int v34), (7, .int (v35 + 1)), (8, .int x36)] 7 [1, 2, 3, 4, 5, 6, 7, 0, 8] dX12_fills_94 rfl rfl (by decide) rfl ?_
                        refine r_goto 54 dX12_fills_97 (by decide) ?_
                        refine r_sub [(0, .ref (ad_ G 0)), (1, .int v1), (2, .int v22), (3, .int v25), (4, .int v28), (5, .int v31), (6, .int v34), (7, .int (v35 + 1))] [0, 1, 2, 3, 4, 5, 6, 7] rfl ?_
                        obtain rfl := Option.some.inj h
                        exact hB (v34, v35 + 1) rfl
                      · rw [if_neg c37] at h
                        refine r_iload 8 dX12_fills_85 rfl ?_
                        refine r_goto 92 dX12_fills_87 (by decide) ?_
                        refine r_istore (i := 6) [(0, .ref (ad_ G 0)), (1, .int v1), (2, .int v22), (3, .int v25), (4, .int v28), (5, .int v31), (6, .int x36), (7, .int v35), (8, .int x36)] [1, 2, 3, 4, 5, 6, 0, 7, 8] dX12_fills_92 (by decide) rfl ?_
                        refine r_iinc (v := v35 + 1) [(0, .ref (ad_ G 0)), (1, .int v1), (2, .int v22), (3, .int v25), (4, .int v28), (5, .int v31), (6, .int x36), (7, .int (v35 + 1)), (8, .int x36)] 7 [1, 2, 3, 4, 5, 6, 7, 0, 8] dX12_fills_94 rfl rfl (by decide) rfl ?_
                        refine r_goto 54 dX12_fills_97 (by decide) ?_
                        refine r_sub [(0, .ref (ad_ G 0)), (1, .int v1), (2, .int v22), (3, .int v25), (4, .int v28), (5, .int v31), (6, .int x36), (7, .int (v35 + 1))] [0, 1, 2, 3, 4, 5, 6, 7] rfl ?_
                        obtain rfl := Option.some.inj h
                        exact hB (x36, v35 + 1) rfl
                  obtain ⟨u39, hu39, h⟩ := b1_some h
                  refine key u39 hu39 ?_
                  show Rn G shM 3 yX12_fills cX12_fills 9 none 100 [(0, .ref (ad_ G 0)), (1, .int v1), (2, .int v22), (3, .int v25), (4, .int v28), (5, .int v31), (6, .int u39)] [] S32 post
                  refine r_iconst (v := 1) dX12_fills_100 rfl ?_
                  refine r_istore (i := 7) [(0, .ref (ad_ G 0)), (1, .int v1), (2, .int v22), (3, .int v25), (4, .int v28), (5, .int v31), (6, .int u39), (7, .int 1)] [1, 2, 3, 4, 5, 6, 7, 0] dX12_fills_101 (by decide) rfl ?_
                  have key : ∀ ex, lp (fun w40 : Int32 × Int32 => bX12_fills_103 v22 v25 v28 v31 S32 w40.1 w40.2) 5000 (u39, 1) = some ex → (fun u49 : Int32 => Rn G shM 3 yX12_fills cX12_fills 9 none 169 [(0, .ref (ad_ G 0)), (1, .int v1), (2, .int v22), (3, .int v25), (4, .int v28), (5, .int v31), (6, .int u49)] [] S32 post) ex → Rn G shM 3 yX12_fills cX12_fills 9 none 103 [(0, .ref (ad_ G 0)), (1, .int v1), (2, .int v22), (3, .int v25), (4, .int v28), (5, .int v31), (6, .int u39), (7, .int 1)] [] S32 post := by
                    intro ex hl hx
                    refine lp_rule (body := (fun w40 : Int32 × Int32 => bX12_fills_103 v22 v25 v28 v31 S32 w40.1 w40.2)) (R := (fun w40 : Int32 × Int32 => Rn G shM 3 yX12_fills cX12_fills 9 none 103 [(0, .ref (ad_ G 0)), (1, .int v1), (2, .int v22), (3, .int v25), (4, .int v28), (5, .int v31), (6, .int w40.1), (7, .int w40.2)] [] S32 post)) (X := (fun u49 : Int32 => Rn G shM 3 yX12_fills cX12_fills 9 none 169 [(0, .ref (ad_ G 0)), (1, .int v1), (2, .int v22), (3, .int v25), (4, .int v28), (5, .int v31), (6, .int u49)] [] S32 post)) ?_ 5000 (u39, 1) ex hl hx
                    intro w40 oo h hB hX
                    obtain ⟨v41, v42⟩ := w40
                    replace h : bX12_fills_103 v22 v25 v28 v31 S32 v41 v42 = some oo := h
                    unfold bX12_fills_103 at h
                    show Rn G shM 3 yX12_fills cX12_fills 9 none 103 [(0, .ref (ad_ G 0)), (1, .int v1), (2, .int v22), (3, .int v25), (4, .int v28), (5, .int v31), (6, .int v41), (7, .int v42)] [] S32 post
                    refine r_iload 7 dX12_fills_103 rfl ?_
                    refine r_iload_n 3 dX12_fills_105 rfl rfl ?_
                    refine r_icmp_ge 169 dX12_fills_106 (by decide) (fun c48 => ?_) (fun c48 => ?_)
                    · rw [if_pos c48] at h
                      refine r_sub [(0, .ref (ad_ G 0)), (1, .int v1), (2, .int v22), (3, .int v25), (4, .int v28), (5, .int v31), (6, .int v41)] [0, 1, 2, 3, 4, 5, 6] rfl ?_
                      obtain rfl := Option.some.inj h
                      exact hX v41 rfl
                    · rw [if_neg c48] at h
                      refine r_aload_n 0 dX12_fills_109 rfl rfl ?_
                      refine r_getC (k := 0) (j := 15) (r := 11) sM_0 rfl fl_X12_48 dX12_fills_110 ?_
                      refine r_iload 5 dX12_fills_113 rfl ?_
                      refine r_iload 4 dX12_fills_115 rfl ?_
                      refine r_iload 7 dX12_fills_117 rfl ?_
                      refine r_iload_n 2 dX12_fills_119 rfl rfl ?_
                      obtain ⟨x43, hx43, h⟩ := b1_some h
                      refine r_callSi (rest := [.ref (ad_ G 11)]) (by omega) (mX12_blockAt hx43) cb_X12_blockAt ml_X12_205 sm_X12_blockAt rfl rfl (Nat.le_of_ble_eq_true rfl) dX12_fills_120 ?_
                      obtain ⟨x44, hx44, h⟩ := b1_some h
                      refine r_iaload sM_11 hx44 dX12_fills_123 ?_
                      refine r_aload_n 0 dX12_fills_124 rfl rfl ?_
                      refine r_getC (k := 0) (j := 15) (r := 11) sM_0 rfl fl_X12_48 dX12_fills_125 ?_
                      refine r_iload 5 dX12_fills_128 rfl ?_
                      refine r_iload 7 dX12_fills_130 rfl ?_
                      refine r_iadd dX12_fills_132 ?_
                      refine r_iload 4 dX12_fills_133 rfl ?_
                      refine r_iload_n 3 dX12_fills_135 rfl rfl ?_
                      refine r_iload 7 dX12_fills_136 rfl ?_
                      refine r_isub dX12_fills_138 ?_
                      refine r_iload_n 2 dX12_fills_139 rfl rfl ?_
                      obtain ⟨x45, hx45, h⟩ := b1_some h
                      refine r_callSi (rest := [.ref (ad_ G 11), .int x44]) (by omega) (mX12_blockAt hx45) cb_X12_blockAt ml_X12_205 sm_X12_blockAt rfl rfl (Nat.le_of_ble_eq_true rfl) dX12_fills_140 ?_
                      obtain ⟨x46, hx46, h⟩ := b1_some h
                      refine r_iaload sM_11 hx46 dX12_fills_143 ?_
                      refine r_iadd dX12_fills_144 ?_
                      refine r_istore (i := 8) [(0, .ref (ad_ G 0)), (1, .int v1), (2, .int v22), (3, .int v25), (4, .int v28), (5, .int v31), (6, .int v41), (7, .int v42), (8, .int (x44 + x46))] [1, 2, 3, 4, 5, 6, 7, 8, 0] dX12_fills_145 (by decide) rfl ?_
                      refine r_iload 8 dX12_fills_147 rfl ?_
                      refine r_iload 6 dX12_fills_149 rfl ?_
                      refine r_icmp_le 159 dX12_fills_151 (by decide) (fun c47 => ?_) (fun c47 => ?_)
                      · rw [if_pos c47] at h
                        refine r_iload 6 dX12_fills_159 rfl ?_
                        refine r_istore (i := 6) [(0, .ref (ad_ G 0)), (1, .int v1), (2, .int v22), (3, .int v25), (4, .int v28), (5, .int v31), (6, .int v41), (7, .int v42), (8, .int (x44 + x46))] [1, 2, 3, 4, 5, 6, 0, 7, 8] dX12_fills_161 (by decide) rfl ?_
                        refine r_iinc (v := v42 + 1) [(0, .ref (ad_ G 0)), (1, .int v1), (2, .int v22), (3, .int v25), (4, .int v28), (5, .int v31), (6, .int v41), (7, .int (v42 + 1)), (8, .int (x44 + x46))] 7 [1, 2, 3, 4, 5, 6, 7, 0, 8] dX12_fills_163 rfl rfl (by decide) rfl ?_
                        refine r_goto 103 dX12_fills_166 (by decide) ?_
                        refine r_sub [(0, .ref (ad_ G 0)), (1, .int v1), (2, .int v22), (3, .int v25), (4, .int v28), (5, .int v31), (6, .int v41), (7, .int (v42 + 1))] [0, 1, 2, 3, 4, 5, 6, 7] rfl ?_
                        obtain rfl := Option.some.inj h
                        exact hB (v41, v42 + 1) rfl
                      · rw [if_neg c47] at h
                        refine r_iload 8 dX12_fills_154 rfl ?_
                        refine r_goto 161 dX12_fills_156 (by decide) ?_
                        refine r_istore (i := 6) [(0, .ref (ad_ G 0)), (1, .int v1), (2, .int v22), (3, .int v25), (4, .int v28), (5, .int v31), (6, .int (x44 + x46)), (7, .int v42), (8, .int (x44 + x46))] [1, 2, 3, 4, 5, 6, 0, 7, 8] dX12_fills_161 (by decide) rfl ?_
                        refine r_iinc (v := v42 + 1) [(0, .ref (ad_ G 0)), (1, .int v1), (2, .int v22), (3, .int v25), (4, .int v28), (5, .int v31), (6, .int (x44 + x46)), (7, .int (v42 + 1)), (8, .int (x44 + x46))] 7 [1, 2, 3, 4, 5, 6, 7, 0, 8] dX12_fills_163 rfl rfl (by decide) rfl ?_
                        refine r_goto 103 dX12_fills_166 (by decide) ?_
                        refine r_sub [(0, .ref (ad_ G 0)), (1, .int v1), (2, .int v22), (3, .int v25), (4, .int v28), (5, .int v31), (6, .int (x44 + x46)), (7, .int (v42 + 1))] [0, 1, 2, 3, 4, 5, 6, 7] rfl ?_
                        obtain rfl := Option.some.inj h
                        exact hB (x44 + x46, v42 + 1) rfl
                  obtain ⟨u49, hu49, h⟩ := b1_some h
                  refine key u49 hu49 ?_
                  show Rn G shM 3 yX12_fills cX12_fills 9 none 169 [(0, .ref (ad_ G 0)), (1, .int v1), (2, .int v22), (3, .int v25), (4, .int v28), (5, .int v31), (6, .int u49)] [] S32 post
                  refine r_iconst (v := 1) dX12_fills_169 rfl ?_
                  refine r_istore (i := 7) [(0, .ref (ad_ G 0)), (1, .int v1), (2, .int v22), (3, .int v25), (4, .int v28), (5, .int v31), (6, .int u49), (7, .int 1)] [1, 2, 3, 4, 5, 6, 7, 0] dX12_fills_170 (by decide) rfl ?_
                  have key : ∀ ex, lp (fun w50 : Int32 × Int32 => bX12_fills_172 v22 v25 v28 v31 S32 w50.1 w50.2) 5000 (u49, 1) = some ex → (fun u59 : Int32 => Rn G shM 3 yX12_fills cX12_fills 9 none 238 [(0, .ref (ad_ G 0)), (1, .int v1), (2, .int v22), (3, .int v25), (4, .int v28), (5, .int v31), (6, .int u59)] [] S32 post) ex → Rn G shM 3 yX12_fills cX12_fills 9 none 172 [(0, .ref (ad_ G 0)), (1, .int v1), (2, .int v22), (3, .int v25), (4, .int v28), (5, .int v31), (6, .int u49), (7, .int 1)] [] S32 post := by
                    intro ex hl hx
                    refine lp_rule (body := (fun w50 : Int32 × Int32 => bX12_fills_172 v22 v25 v28 v31 S32 w50.1 w50.2)) (R := (fun w50 : Int32 × Int32 => Rn G shM 3 yX12_fills cX12_fills 9 none 172 [(0, .ref (ad_ G 0)), (1, .int v1), (2, .int v22), (3, .int v25), (4, .int v28), (5, .int v31), (6, .int w50.1), (7, .int w50.2)] [] S32 post)) (X := (fun u59 : Int32 => Rn G shM 3 yX12_fills cX12_fills 9 none 238 [(0, .ref (ad_ G 0)), (1, .int v1), (2, .int v22), (3, .int v25), (4, .int v28), (5, .int v31), (6, .int u59)] [] S32 post)) ?_ 5000 (u49, 1) ex hl hx
                    intro w50 oo h hB hX
                    obtain ⟨v51, v52⟩ := w50
                    replace h : bX12_fills_172 v22 v25 v28 v31 S32 v51 v52 = some oo := h
                    unfold bX12_fills_172 at h
                    show Rn G shM 3 yX12_fills cX12_fills 9 none 172 [(0, .ref (ad_ G 0)), (1, .int v1), (2, .int v22), (3, .int v25), (4, .int v28), (5, .int v31), (6, .int v51), (7, .int v52)] [] S32 post
                    refine r_iload 7 dX12_fills_172 rfl ?_
                    refine r_iload_n 2 dX12_fills_174 rfl rfl ?_
                    refine r_icmp_ge 238 dX12_fills_175 (by decide) (fun c58 => ?_) (fun c58 => ?_)
                    · rw [if_pos c58] at h
                      refine r_sub [(0, .ref (ad_ G 0)), (1, .int v1), (2, .int v22), (3, .int v25), (4, .int v28), (5, .int v31), (6, .int v51)] [0, 1, 2, 3, 4, 5, 6] rfl ?_
                      obtain rfl := Option.some.inj h
                      exact hX v51 rfl
                    · rw [if_neg c58] at h
                      refine r_aload_n 0 dX12_fills_178 rfl rfl ?_
                      refine r_getC (k := 0) (j := 15) (r := 11) sM_0 rfl fl_X12_48 dX12_fills_179 ?_
                      refine r_iload 5 dX12_fills_182 rfl ?_
                      refine r_iload 4 dX12_fills_184 rfl ?_
                      refine r_iload_n 3 dX12_fills_186 rfl rfl ?_
                      refine r_iload 7 dX12_fills_187 rfl ?_
                      obtain ⟨x53, hx53, h⟩ := b1_some h
                      refine r_callSi (rest := [.ref (ad_ G 11)]) (by omega) (mX12_blockAt hx53) cb_X12_blockAt ml_X12_205 sm_X12_blockAt rfl rfl (Nat.le_of_ble_eq_true rfl) dX12_fills_189 ?_
                      obtain ⟨x54, hx54, h⟩ := b1_some h
                      refine r_iaload sM_11 hx54 dX12_fills_192 ?_
                      refine r_aload_n 0 dX12_fills_193 rfl rfl ?_
                      refine r_getC (k := 0) (j := 15) (r := 11) sM_0 rfl fl_X12_48 dX12_fills_194 ?_
                      refine r_iload 5 dX12_fills_197 rfl ?_
                      refine r_iload 4 dX12_fills_199 rfl ?_
                      refine r_iload 7 dX12_fills_201 rfl ?_
                      refine r_iadd dX12_fills_203 ?_
                      refine r_iload_n 3 dX12_fills_204 rfl rfl ?_
                      refine r_iload_n 2 dX12_fills_205 rfl rfl ?_
                      refine r_iload 7 dX12_fills_206 rfl ?_
                      refine r_isub dX12_fills_208 ?_
                      obtain ⟨x55, hx55, h⟩ := b1_some h
                      refine r_callSi (rest := [.ref (ad_ G 11), .int x54]) (by omega) (mX12_blockAt hx55) cb_X12_blockAt ml_X12_205 sm_X12_blockAt rfl rfl (Nat.le_of_ble_eq_true rfl) dX12_fills_209 ?_
                      obtain ⟨x56, hx56, h⟩ := b1_some h
                      refine r_iaload sM_11 hx56 dX12_fills_212 ?_
                      refine r_iadd dX12_fills_213 ?_
                      refine r_istore (i := 8) [(0, .ref (ad_ G 0)), (1, .int v1), (2, .int v22), (3, .int v25), (4, .int v28), (5, .int v31), (6, .int v51), (7, .int v52), (8, .int (x54 + x56))] [1, 2, 3, 4, 5, 6, 7, 8, 0] dX12_fills_214 (by decide) rfl ?_
                      refine r_iload 8 dX12_fills_216 rfl ?_
                      refine r_iload 6 dX12_fills_218 rfl ?_
                      refine r_icmp_le 228 dX12_fills_220 (by decide) (fun c57 => ?_) (fun c57 => ?_)
                      · rw [if_pos c57] at h
                        refine r_iload 6 dX12_fills_228 rfl ?_
                        refine r_istore (i := 6) [(0, .ref (ad_ G 0)), (1, .int v1), (2, .int v22), (3, .int v25), (4, .int v28), (5, .int v31), (6, .int v51), (7, .int v52), (8, .int (x54 + x56))] [1, 2, 3, 4, 5, 6, 0, 7, 8] dX12_fills_230 (by decide) rfl ?_
                        refine r_iinc (v := v52 + 1) [(0, .ref (ad_ G 0)), (1, .int v1), (2, .int v22), (3, .int v25), (4, .int v28), (5, .int v31), (6, .int v51), (7, .int (v52 + 1)), (8, .int (x54 + x56))] 7 [1, 2, 3, 4, 5, 6, 7, 0, 8] dX12_fills_232 rfl rfl (by decide) rfl ?_
                        refine r_goto 172 dX12_fills_235 (by decide) ?_
                        refine r_sub [(0, .ref (ad_ G 0)), (1, .int v1), (2, .int v22), (3, .int v25), (4, .int v28), (5, .int v31), (6, .int v51), (7, .int (v52 + 1))] [0, 1, 2, 3, 4, 5, 6, 7] rfl ?_
                        obtain rfl := Option.some.inj h
                        exact hB (v51, v52 + 1) rfl
                      · rw [if_neg c57] at h
                        refine r_iload 8 dX12_fills_223 rfl ?_
                        refine r_goto 230 dX12_fills_225 (by decide) ?_
                        refine r_istore (i := 6) [(0, .ref (ad_ G 0)), (1, .int v1), (2, .int v22), (3, .int v25), (4, .int v28), (5, .int v31), (6, .int (x54 + x56)), (7, .int v52), (8, .int (x54 + x56))] [1, 2, 3, 4, 5, 6, 0, 7, 8] dX12_fills_230 (by decide) rfl ?_
                        refine r_iinc (v := v52 + 1) [(0, .ref (ad_ G 0)), (1, .int v1), (2, .int v22), (3, .int v25), (4, .int v28), (5, .int v31), (6, .int (x54 + x56)), (7, .int (v52 + 1)), (8, .int (x54 + x56))] 7 [1, 2, 3, 4, 5, 6, 7, 0, 8] dX12_fills_232 rfl rfl (by decide) rfl ?_
                        refine r_goto 172 dX12_fills_235 (by decide) ?_
                        refine r_sub [(0, .ref (ad_ G 0)), (1, .int v1), (2, .int v22), (3, .int v25), (4, .int v28), (5, .int v31), (6, .int (x54 + x56)), (7, .int (v52 + 1))] [0, 1, 2, 3, 4, 5, 6, 7] rfl ?_
                        obtain rfl := Option.some.inj h
                        exact hB (x54 + x56, v52 + 1) rfl
                  obtain ⟨u59, hu59, h⟩ := b1_some h
                  refine key u59 hu59 ?_
                  show Rn G shM 3 yX12_fills cX12_fills 9 none 238 [(0, .ref (ad_ G 0)), (1, .int v1), (2, .int v22), (3, .int v25), (4, .int v28), (5, .int v31), (6, .int u59)] [] S32 post
                  refine r_aload_n 0 dX12_fills_238 rfl rfl ?_
                  refine r_getC (k := 0) (j := 15) (r := 11) sM_0 rfl fl_X12_48 dX12_fills_239 ?_
                  refine r_iload 5 dX12_fills_242 rfl ?_
                  refine r_iload 4 dX12_fills_244 rfl ?_
                  refine r_iload_n 3 dX12_fills_246 rfl rfl ?_
                  refine r_iload_n 2 dX12_fills_247 rfl rfl ?_
                  obtain ⟨x60, hx60, h⟩ := b1_some h
                  refine r_callSi (rest := [.ref (ad_ G 11)]) (by omega) (mX12_blockAt hx60) cb_X12_blockAt ml_X12_205 sm_X12_blockAt rfl rfl (Nat.le_of_ble_eq_true rfl) dX12_fills_248 ?_
                  refine r_iload 6 dX12_fills_251 rfl ?_
                  obtain ⟨S61, hS61, h⟩ := b1_some h
                  refine r_iastore sM_11 hS61 dX12_fills_253 ?_
                  refine r_iinc (v := v31 + 1) [(0, .ref (ad_ G 0)), (1, .int v1), (2, .int v22), (3, .int v25), (4, .int v28), (5, .int (v31 + 1)), (6, .int u59)] 5 [1, 2, 3, 4, 5, 0, 6] dX12_fills_254 rfl rfl (by decide) rfl ?_
                  refine r_goto 37 dX12_fills_257 (by decide) ?_
                  refine r_sub [(0, .ref (ad_ G 0)), (1, .int v1), (2, .int v22), (3, .int v25), (4, .int v28), (5, .int (v31 + 1))] [0, 1, 2, 3, 4, 5] rfl ?_
                  obtain rfl := Option.some.inj h
                  exact hB (v31 + 1, S61) rfl
              obtain ⟨u63, hu63, h⟩ := b1_some h
              refine key u63 hu63 ?_
              show Rn G shM 3 yX12_fills cX12_fills 9 none 260 [(0, .ref (ad_ G 0)), (1, .int v1), (2, .int v22), (3, .int v25), (4, .int v28)] [] u63 post
              refine r_iinc (v := v28 + 1) [(0, .ref (ad_ G 0)), (1, .int v1), (2, .int v22), (3, .int v25), (4, .int (v28 + 1))] 4 [1, 2, 3, 4, 0] dX12_fills_260 rfl rfl (by decide) rfl ?_
              refine r_goto 23 dX12_fills_263 (by decide) ?_
              obtain rfl := Option.some.inj h
              exact hB (v28 + 1, u63) rfl
          obtain ⟨u65, hu65, h⟩ := b1_some h
          refine key u65 hu65 ?_
          show Rn G shM 3 yX12_fills cX12_fills 9 none 266 [(0, .ref (ad_ G 0)), (1, .int v1), (2, .int v22), (3, .int v25)] [] u65 post
          refine r_iinc (v := v25 + 1) [(0, .ref (ad_ G 0)), (1, .int v1), (2, .int v22), (3, .int (v25 + 1))] 3 [1, 2, 3, 0] dX12_fills_266 rfl rfl (by decide) rfl ?_
          refine r_goto 12 dX12_fills_269 (by decide) ?_
          obtain rfl := Option.some.inj h
          exact hB (v25 + 1, u65) rfl
      obtain ⟨u67, hu67, h⟩ := b1_some h
      refine key u67 hu67 ?_
      show Rn G shM 3 yX12_fills cX12_fills 9 none 272 [(0, .ref (ad_ G 0)), (1, .int v1), (2, .int v22)] [] u67 post
      refine r_iinc (v := v22 + 1) [(0, .ref (ad_ G 0)), (1, .int v1), (2, .int (v22 + 1))] 2 [1, 2, 0] dX12_fills_272 rfl rfl (by decide) rfl ?_
      refine r_goto 2 dX12_fills_275 (by decide) ?_
      obtain rfl := Option.some.inj h
      exact hB (v22 + 1, u67) rfl
  obtain ⟨u69, hu69, h⟩ := b1_some h
  refine key u69 hu69 ?_
  show Rn G shM 3 yX12_fills cX12_fills 9 none 278 [] [] u69 post
  obtain rfl := Option.some.inj h
  exact r_return rfl dX12_fills_278 (hp)
theorem mX12_fills {G : Gx} {S : St} {v1 : Int32} {o : St}  (h : fX12_fills S v1 = some o) : MR_ G shM 3 yX12_fills cX12_fills 9 none [.ref (ad_ G 0), .int v1] S (PV_ o) := MR_of cb_X12_fills (Nat.le_of_ble_eq_true rfl) [(0, .ref (ad_ G 0)), (1, .int v1)] rfl (tX12_fills  h ⟨rfl, rfl⟩)
set_option maxRecDepth 100000 in
set_option maxHeartbeats 4000000 in
theorem tX12_mostOfAll {G : Gx} {post : Option Value → St → Prop} {S : St} {v1 : Int32} {o : (Int32 × St)}  (h : fX12_mostOfAll S v1 = some o) (hp : post (some (.int o.1)) o.2) : Rn G shM 4 yX12_mostOfAll cX12_mostOfAll 2 (some .int) 0 [(0, .ref (ad_ G 0)), (1, .int v1)] [] S post := by
  unfold fX12_mostOfAll at h
  refine r_aload_n 0 dX12_mostOfAll_0 rfl rfl ?_
  refine r_iload_n 1 dX12_mostOfAll_1 rfl rfl ?_
  obtain ⟨S21, hS21, h⟩ := b1_some h
  refine r_callVv (k := 0) (rest := []) (by omega) (mX12_fills hS21) sM_0 rfl rfl cb_X12_fills ml_X12_208 im_X12_fills se_X12_fills rfl rfl (Nat.le_of_ble_eq_true rfl) dX12_mostOfAll_2 ?_
  refine r_aload_n 0 dX12_mostOfAll_5 rfl rfl ?_
  refine r_getC (k := 0) (j := 15) (r := 11) sM_0 rfl fl_X12_48 dX12_mostOfAll_6 ?_
  refine r_iconst (v := 0) dX12_mostOfAll_9 rfl ?_
  refine r_iconst (v := 0) dX12_mostOfAll_10 rfl ?_
  refine r_aload_n 0 dX12_mostOfAll_11 rfl rfl ?_
  refine r_getI (k := 0) (j := 0) sM_0 rfl fl_X12_7 dX12_mostOfAll_12 ?_
  refine r_aload_n 0 dX12_mostOfAll_15 rfl rfl ?_
  refine r_getI (k := 0) (j := 1) sM_0 rfl fl_X12_13 dX12_mostOfAll_16 ?_
  obtain ⟨x22, hx22, h⟩ := b1_some h
  refine r_callSi (rest := [.ref (ad_ G 11)]) (by omega) (mX12_blockAt hx22) cb_X12_blockAt ml_X12_205 sm_X12_blockAt rfl rfl (Nat.le_of_ble_eq_true rfl) dX12_mostOfAll_19 ?_
  obtain ⟨x23, hx23, h⟩ := b1_some h
  refine r_iaload sM_11 hx23 dX12_mostOfAll_22 ?_
  obtain rfl := Option.some.inj h
  exact r_ireturn rfl dX12_mostOfAll_23 (hp)
theorem mX12_mostOfAll {G : Gx} {S : St} {v1 : Int32} {o : (Int32 × St)}  (h : fX12_mostOfAll S v1 = some o) : MR_ G shM 4 yX12_mostOfAll cX12_mostOfAll 2 (some .int) [.ref (ad_ G 0), .int v1] S (PI_ o.1 o.2) := MR_of cb_X12_mostOfAll (Nat.le_of_ble_eq_true rfl) [(0, .ref (ad_ G 0)), (1, .int v1)] rfl (tX12_mostOfAll  h ⟨rfl, rfl⟩)
set_option maxRecDepth 100000 in
set_option maxHeartbeats 4000000 in
theorem tX12_most {G : Gx} {post : Option Value → St → Prop} {S : St} {v1 : Int32} {v2 : Int32} {v3 : Int32} {v4 : Int32} {o : (Int32 × St)}  (h : fX12_most S v1 v2 v3 v4 = some o) (hp : post (some (.int o.1)) o.2) : Rn G shM 4 yX12_most cX12_most 5 (some .int) 0 [(0, .ref (ad_ G 0)), (1, .int v1), (2, .int v2), (3, .int v3), (4, .int v4)] [] S post := by
  unfold fX12_most at h
  refine r_aload_n 0 dX12_most_0 rfl rfl ?_
  refine r_iload_n 1 dX12_most_1 rfl rfl ?_
  refine r_iload_n 2 dX12_most_2 rfl rfl ?_
  refine r_iload_n 3 dX12_most_3 rfl rfl ?_
  refine r_iload 4 dX12_most_4 rfl ?_
  obtain ⟨x21, hx21, h⟩ := b1_some h
  refine r_callVi (k := 0) (rest := []) (by omega) (mX12_isBlock hx21) sM_0 rfl rfl cb_X12_isBlock ml_X12_186 im_X12_isBlock se_X12_isBlock rfl rfl (Nat.le_of_ble_eq_true rfl) dX12_most_6 ?_
  refine r_if_ne 14 dX12_most_9 (by decide) (fun c25 => ?_) (fun c25 => ?_)
  · rw [if_neg c25] at h
    refine r_aload_n 0 dX12_most_14 rfl rfl ?_
    refine r_iconst (v := (-1)) dX12_most_15 rfl ?_
    obtain ⟨S22, hS22, h⟩ := b1_some h
    refine r_callVv (k := 0) (rest := []) (by omega) (mX12_fills hS22) sM_0 rfl rfl cb_X12_fills ml_X12_208 im_X12_fills se_X12_fills rfl rfl (Nat.le_of_ble_eq_true rfl) dX12_most_16 ?_
    refine r_aload_n 0 dX12_most_19 rfl rfl ?_
    refine r_getC (k := 0) (j := 15) (r := 11) sM_0 rfl fl_X12_48 dX12_most_20 ?_
    refine r_iload_n 1 dX12_most_23 rfl rfl ?_
    refine r_iload_n 2 dX12_most_24 rfl rfl ?_
    refine r_iload_n 3 dX12_most_25 rfl rfl ?_
    refine r_iload 4 dX12_most_26 rfl ?_
    obtain ⟨x23, hx23, h⟩ := b1_some h
    refine r_callSi (rest := [.ref (ad_ G 11)]) (by omega) (mX12_blockAt hx23) cb_X12_blockAt ml_X12_205 sm_X12_blockAt rfl rfl (Nat.le_of_ble_eq_true rfl) dX12_most_28 ?_
    obtain ⟨x24, hx24, h⟩ := b1_some h
    refine r_iaload sM_11 hx24 dX12_most_31 ?_
    obtain rfl := Option.some.inj h
    exact r_ireturn rfl dX12_most_32 (hp)
  · rw [if_pos c25] at h
    refine r_iconst (v := (-1)) dX12_most_12 rfl ?_
    obtain rfl := Option.some.inj h
    exact r_ireturn rfl dX12_most_13 (hp)
theorem mX12_most {G : Gx} {S : St} {v1 : Int32} {v2 : Int32} {v3 : Int32} {v4 : Int32} {o : (Int32 × St)}  (h : fX12_most S v1 v2 v3 v4 = some o) : MR_ G shM 4 yX12_most cX12_most 5 (some .int) [.ref (ad_ G 0), .int v1, .int v2, .int v3, .int v4] S (PI_ o.1 o.2) := MR_of cb_X12_most (Nat.le_of_ble_eq_true rfl) [(0, .ref (ad_ G 0)), (1, .int v1), (2, .int v2), (3, .int v3), (4, .int v4)] rfl (tX12_most  h ⟨rfl, rfl⟩)
set_option maxRecDepth 100000 in
set_option maxHeartbeats 4000000 in
theorem tX12_deed {G : Gx} {post : Option Value → St → Prop} {S : St} {v1 : Int32} {v2 : Int32} {v3 : Int32} {v4 : Int32} {v5 : Int32} {o : Int32}  (h : fX12_deed S v1 v2 v3 v4 v5 = some o) (hp : post (some (.int o)) S) : Rn G shM 3 yX12_deed cX12_deed 8 (some .int) 0 [(0, .ref (ad_ G 0)), (1, .int v1), (2, .int v2), (3, .int v3), (4, .int v4), (5, .int v5)] [] S post := by
  unfold fX12_deed at h
  refine r_aload_n 0 dX12_deed_0 rfl rfl ?_
  refine r_getC (k := 0) (j := 15) (r := 11) sM_0 rfl fl_X12_48 dX12_deed_1 ?_
  refine r_iload_n 1 dX12_deed_4 rfl rfl ?_
  refine r_iload_n 2 dX12_deed_5 rfl rfl ?_
  refine r_iload_n 3 dX12_deed_6 rfl rfl ?_
  refine r_iload 4 dX12_deed_7 rfl ?_
  obtain ⟨x21, hx21, h⟩ := b1_some h
  refine r_callSi (rest := [.ref (ad_ G 11)]) (by omega) (mX12_blockAt hx21) cb_X12_blockAt ml_X12_205 sm_X12_blockAt rfl rfl (Nat.le_of_ble_eq_true rfl) dX12_deed_9 ?_
  obtain ⟨x22, hx22, h⟩ := b1_some h
  refine r_iaload sM_11 hx22 dX12_deed_12 ?_
  refine r_istore (i := 6) [(0, .ref (ad_ G 0)), (1, .int v1), (2, .int v2), (3, .int v3), (4, .int v4), (5, .int v5), (6, .int x22)] [1, 2, 3, 4, 5, 6, 0] dX12_deed_13 (by decide) rfl ?_
  refine r_iload 6 dX12_deed_15 rfl ?_
  refine r_if_ne 23 dX12_deed_17 (by decide) (fun c46 => ?_) (fun c46 => ?_)
  · rw [if_neg c46] at h
    refine r_iconst (v := 0) dX12_deed_23 rfl ?_
    refine r_istore (i := 7) [(0, .ref (ad_ G 0)), (1, .int v1), (2, .int v2), (3, .int v3), (4, .int v4), (5, .int v5), (6, .int x22), (7, .int 0)] [1, 2, 3, 4, 5, 6, 7, 0] dX12_deed_24 (by decide) rfl ?_
    have key : ∀ ex, lp (fun w23 : Int32 => bX12_deed_26 S v1 v2 v3 v4 v5 x22 w23) 5000 0 = some ex → (fun ex : (Unit) ⊕ Int32 => match ex with | .inl u28 => Rn G shM 3 yX12_deed cX12_deed 8 (some .int) 62 [(0, .ref (ad_ G 0)), (1, .int v1), (2, .int v2), (3, .int v3), (4, .int v4), (6, .int x22)] [] S post | .inr rr => post (some (.int rr)) S) ex → Rn G shM 3 yX12_deed cX12_deed 8 (some .int) 26 [(0, .ref (ad_ G 0)), (1, .int v1), (2, .int v2), (3, .int v3), (4, .int v4), (5, .int v5), (6, .int x22), (7, .int 0)] [] S post := by
      intro ex hl hx
      refine lp_rule (body := (fun w23 : Int32 => bX12_deed_26 S v1 v2 v3 v4 v5 x22 w23)) (R := (fun w23 : Int32 => Rn G shM 3 yX12_deed cX12_deed 8 (some .int) 26 [(0, .ref (ad_ G 0)), (1, .int v1), (2, .int v2), (3, .int v3), (4, .int v4), (5, .int v5), (6, .int x22), (7, .int w23)] [] S post)) (X := (fun ex : (Unit) ⊕ Int32 => match ex with | .inl u28 => Rn G shM 3 yX12_deed cX12_deed 8 (some .int) 62 [(0, .ref (ad_ G 0)), (1, .int v1), (2, .int v2), (3, .int v3), (4, .int v4), (6, .int x22)] [] S post | .inr rr => post (some (.int rr)) S)) ?_ 5000 0 ex hl hx
      intro w23 oo h hB hX
      obtain ⟨v24, rfl⟩ : ∃ z, z = w23 := ⟨_, rfl⟩
      replace h : bX12_deed_26 S v1 v2 v3 v4 v5 x22 v24 = some oo := h
      unfold bX12_deed_26 at h
      show Rn G shM 3 yX12_deed cX12_deed 8 (some .int) 26 [(0, .ref (ad_ G 0)), (1, .int v1), (2, .int v2), (3, .int v3), (4, .int v4), (5, .int v5), (6, .int x22), (7, .int v24)] [] S post
      refine r_iload 7 dX12_deed_26 rfl ?_
      refine r_aload_n 0 dX12_deed_28 rfl rfl ?_
      refine r_getI (k := 0) (j := 9) sM_0 rfl fl_X12_166 dX12_deed_29 ?_
      refine r_icmp_ge 62 dX12_deed_32 (by decide) (fun c27 => ?_) (fun c27 => ?_)
      · rw [if_pos c27] at h
        refine r_sub [(0, .ref (ad_ G 0)), (1, .int v1), (2, .int v2), (3, .int v3), (4, .int v4), (6, .int x22)] [0, 1, 2, 3, 4, 6] rfl ?_
        obtain rfl := Option.some.inj h
        exact hX (.inl ()) rfl
      · rw [if_neg c27] at h
        refine r_aload_n 0 dX12_deed_35 rfl rfl ?_
        refine r_iload_n 1 dX12_deed_36 rfl rfl ?_
        refine r_iload_n 2 dX12_deed_37 rfl rfl ?_
        refine r_iload_n 3 dX12_deed_38 rfl rfl ?_
        refine r_iload 4 dX12_deed_39 rfl ?_
        refine r_iload 7 dX12_deed_41 rfl ?_
        refine r_iload 5 dX12_deed_43 rfl ?_
        obtain ⟨x25, hx25, h⟩ := b1_some h
        refine r_callVi (k := 0) (rest := []) (by omega) (mX12_bringsOf hx25) sM_0 rfl rfl cb_X12_bringsOf ml_X12_201 im_X12_bringsOf se_X12_bringsOf rfl rfl (Nat.le_of_ble_eq_true rfl) dX12_deed_45 ?_
        refine r_iload 6 dX12_deed_48 rfl ?_
        refine r_icmp_ne 56 dX12_deed_50 (by decide) (fun c26 => ?_) (fun c26 => ?_)
        · rw [if_neg c26] at h
          refine r_iinc (v := v24 + 1) [(0, .ref (ad_ G 0)), (1, .int v1), (2, .int v2), (3, .int v3), (4, .int v4), (5, .int v5), (6, .int x22), (7, .int (v24 + 1))] 7 [1, 2, 3, 4, 5, 6, 7, 0] dX12_deed_56 rfl rfl (by decide) rfl ?_
          refine r_goto 26 dX12_deed_59 (by decide) ?_
          obtain rfl := Option.some.inj h
          exact hB (v24 + 1) rfl
        · rw [if_pos c26] at h
          refine r_iload 7 dX12_deed_53 rfl ?_
          obtain rfl := Option.some.inj h
          exact r_ireturn rfl dX12_deed_55 (hX (.inr v24) rfl)
    rcases bs_some h with ⟨u28, hu28, h⟩ | ⟨rr, hu28, h⟩
    · refine key _ hu28 ?_
      show Rn G shM 3 yX12_deed cX12_deed 8 (some .int) 62 [(0, .ref (ad_ G 0)), (1, .int v1), (2, .int v2), (3, .int v3), (4, .int v4), (6, .int x22)] [] S post
      refine r_iconst (v := 1) dX12_deed_62 rfl ?_
      refine r_istore (i := 7) [(0, .ref (ad_ G 0)), (1, .int v1), (2, .int v2), (3, .int v3), (4, .int v4), (6, .int x22), (7, .int 1)] [1, 2, 3, 4, 5, 6, 0] dX12_deed_63 (by decide) rfl ?_
      have key : ∀ ex, lp (fun w29 : Int32 => bX12_deed_65 S v1 v2 v3 v4 x22 w29) 5000 1 = some ex → (fun ex : (Unit) ⊕ Int32 => match ex with | .inl u37 => Rn G shM 3 yX12_deed cX12_deed 8 (some .int) 122 [(0, .ref (ad_ G 0)), (1, .int v1), (2, .int v2), (3, .int v3), (4, .int v4), (6, .int x22)] [] S post | .inr rr => post (some (.int rr)) S) ex → Rn G shM 3 yX12_deed cX12_deed 8 (some .int) 65 [(0, .ref (ad_ G 0)), (1, .int v1), (2, .int v2), (3, .int v3), (4, .int v4), (6, .int x22), (7, .int 1)] [] S post := by
        intro ex hl hx
        refine lp_rule (body := (fun w29 : Int32 => bX12_deed_65 S v1 v2 v3 v4 x22 w29)) (R := (fun w29 : Int32 => Rn G shM 3 yX12_deed cX12_deed 8 (some .int) 65 [(0, .ref (ad_ G 0)), (1, .int v1), (2, .int v2), (3, .int v3), (4, .int v4), (6, .int x22), (7, .int w29)] [] S post)) (X := (fun ex : (Unit) ⊕ Int32 => match ex with | .inl u37 => Rn G shM 3 yX12_deed cX12_deed 8 (some .int) 122 [(0, .ref (ad_ G 0)), (1, .int v1), (2, .int v2), (3, .int v3), (4, .int v4), (6, .int x22)] [] S post | .inr rr => post (some (.int rr)) S)) ?_ 5000 1 ex hl hx
        intro w29 oo h hB hX
        obtain ⟨v30, rfl⟩ : ∃ z, z = w29 := ⟨_, rfl⟩
        replace h : bX12_deed_65 S v1 v2 v3 v4 x22 v30 = some oo := h
        unfold bX12_deed_65 at h
        show Rn G shM 3 yX12_deed cX12_deed 8 (some .int) 65 [(0, .ref (ad_ G 0)), (1, .int v1), (2, .int v2), (3, .int v3), (4, .int v4), (6, .int x22), (7, .int v30)] [] S post
        refine r_iload 6 dX12_deed_65 rfl ?_
        refine r_iload_n 3 dX12_deed_67 rfl rfl ?_
        refine r_icmp_ge 122 dX12_deed_68 (by decide) (fun c36 => ?_) (fun c36 => ?_)
        · rw [if_pos c36] at h
          refine r_sub [(0, .ref (ad_ G 0)), (1, .int v1), (2, .int v2), (3, .int v3), (4, .int v4), (6, .int x22)] [0, 1, 2, 3, 4, 5] rfl ?_
          obtain rfl := Option.some.inj h
          exact hX (.inl ()) rfl
        · rw [if_neg c36] at h
          refine r_aload_n 0 dX12_deed_71 rfl rfl ?_
          refine r_getC (k := 0) (j := 15) (r := 11) sM_0 rfl fl_X12_48 dX12_deed_72 ?_
          refine r_iload_n 1 dX12_deed_75 rfl rfl ?_
          refine r_iload_n 2 dX12_deed_76 rfl rfl ?_
          refine r_iload 6 dX12_deed_77 rfl ?_
          refine r_iload 4 dX12_deed_79 rfl ?_
          obtain ⟨x31, hx31, h⟩ := b1_some h
          refine r_callSi (rest := [.ref (ad_ G 11)]) (by omega) (mX12_blockAt hx31) cb_X12_blockAt ml_X12_205 sm_X12_blockAt rfl rfl (Nat.le_of_ble_eq_true rfl) dX12_deed_81 ?_
          obtain ⟨x32, hx32, h⟩ := b1_some h
          refine r_iaload sM_11 hx32 dX12_deed_84 ?_
          refine r_aload_n 0 dX12_deed_85 rfl rfl ?_
          refine r_getC (k := 0) (j := 15) (r := 11) sM_0 rfl fl_X12_48 dX12_deed_86 ?_
          refine r_iload_n 1 dX12_deed_89 rfl rfl ?_
          refine r_iload 6 dX12_deed_90 rfl ?_
          refine r_iadd dX12_deed_92 ?_
          refine r_iload_n 2 dX12_deed_93 rfl rfl ?_
          refine r_iload_n 3 dX12_deed_94 rfl rfl ?_
          refine r_iload 6 dX12_deed_95 rfl ?_
          refine r_isub dX12_deed_97 ?_
          refine r_iload 4 dX12_deed_98 rfl ?_
          obtain ⟨x33, hx33, h⟩ := b1_some h
          refine r_callSi (rest := [.ref (ad_ G 11), .int x32]) (by omega) (mX12_blockAt hx33) cb_X12_blockAt ml_X12_205 sm_X12_blockAt rfl rfl (Nat.le_of_ble_eq_true rfl) dX12_deed_100 ?_
          obtain ⟨x34, hx34, h⟩ := b1_some h
          refine r_iaload sM_11 hx34 dX12_deed_103 ?_
          refine r_iadd dX12_deed_104 ?_
          refine r_iload 5 dX12_deed_105 rfl ?_
          refine r_icmp_ne 116 dX12_deed_107 (by decide) (fun c35 => ?_) (fun c35 => ?_)
          · rw [if_neg c35] at h
            refine r_iinc (v := v30 + 1) [(0, .ref (ad_ G 0)), (1, .int v1), (2, .int v2), (3, .int v3), (4, .int v4), (6, .int x22), (7, .int (v30 + 1))] 6 [1, 2, 3, 4, 5, 6, 0] dX12_deed_116 rfl rfl (by decide) rfl ?_
            refine r_goto 65 dX12_deed_119 (by decide) ?_
            obtain rfl := Option.some.inj h
            exact hB (v30 + 1) rfl
          · rw [if_pos c35] at h
            refine r_bipush (v := 100) dX12_deed_110 rfl ?_
            refine r_iload 6 dX12_deed_112 rfl ?_
            refine r_iadd dX12_deed_114 ?_
            obtain rfl := Option.some.inj h
            exact r_ireturn rfl dX12_deed_115 (hX (.inr (100 + v30)) rfl)
      rcases bs_some h with ⟨u37, hu37, h⟩ | ⟨rr, hu37, h⟩
      · refine key _ hu37 ?_
        show Rn G shM 3 yX12_deed cX12_deed 8 (some .int) 122 [(0, .ref (ad_ G 0)), (1, .int v1), (2, .int v2), (3, .int v3), (4, .int v4), (6, .int x22)] [] S post
        refine r_iconst (v := 1) dX12_deed_122 rfl ?_
        refine r_istore (i := 7) [(0, .ref (ad_ G 0)), (1, .int v1), (2, .int v2), (3, .int v3), (4, .int v4), (6, .int x22), (7, .int 1)] [1, 2, 3, 4, 5, 6, 0] dX12_deed_123 (by decide) rfl ?_
        have key : ∀ ex, lp (fun w38 : Int32 => bX12_deed_125 S v1 v2 v3 v4 x22 w38) 5000 1 = some ex → (fun u45 : Int32 => Rn G shM 3 yX12_deed cX12_deed 8 (some .int) 169 [(7, .int u45)] [] S post) ex → Rn G shM 3 yX12_deed cX12_deed 8 (some .int) 125 [(0, .ref (ad_ G 0)), (1, .int v1), (2, .int v2), (3, .int v3), (4, .int v4), (6, .int x22), (7, .int 1)] [] S post := by
          intro ex hl hx
          refine lp_rule (body := (fun w38 : Int32 => bX12_deed_125 S v1 v2 v3 v4 x22 w38)) (R := (fun w38 : Int32 => Rn G shM 3 yX12_deed cX12_deed 8 (some .int) 125 [(0, .ref (ad_ G 0)), (1, .int v1), (2, .int v2), (3, .int v3), (4, .int v4), (6, .int x22), (7, .int w38)] [] S post)) (X := (fun u45 : Int32 => Rn G shM 3 yX12_deed cX12_deed 8 (some .int) 169 [(7, .int u45)] [] S post)) ?_ 5000 1 ex hl hx
          intro w38 oo h hB hX
          obtain ⟨v39, rfl⟩ : ∃ z, z = w38 := ⟨_, rfl⟩
          replace h : bX12_deed_125 S v1 v2 v3 v4 x22 v39 = some oo := h
          unfold bX12_deed_125 at h
          show Rn G shM 3 yX12_deed cX12_deed 8 (some .int) 125 [(0, .ref (ad_ G 0)), (1, .int v1), (2, .int v2), (3, .int v3), (4, .int v4), (6, .int x22), (7, .int v39)] [] S post
          refine r_aload_n 0 dX12_deed_125 rfl rfl ?_
          refine r_getC (k := 0) (j := 15) (r := 11) sM_0 rfl fl_X12_48 dX12_deed_126 ?_
          refine r_iload_n 1 dX12_deed_129 rfl rfl ?_
          refine r_iload_n 2 dX12_deed_130 rfl rfl ?_
          refine r_iload_n 3 dX12_deed_131 rfl rfl ?_
          refine r_iload 6 dX12_deed_132 rfl ?_
          obtain ⟨x40, hx40, h⟩ := b1_some h
          refine r_callSi (rest := [.ref (ad_ G 11)]) (by omega) (mX12_blockAt hx40) cb_X12_blockAt ml_X12_205 sm_X12_blockAt rfl rfl (Nat.le_of_ble_eq_true rfl) dX12_deed_134 ?_
          obtain ⟨x41, hx41, h⟩ := b1_some h
          refine r_iaload sM_11 hx41 dX12_deed_137 ?_
          refine r_aload_n 0 dX12_deed_138 rfl rfl ?_
          refine r_getC (k := 0) (j := 15) (r := 11) sM_0 rfl fl_X12_48 dX12_deed_139 ?_
          refine r_iload_n 1 dX12_deed_142 rfl rfl ?_
          refine r_iload_n 2 dX12_deed_143 rfl rfl ?_
          refine r_iload 6 dX12_deed_144 rfl ?_
          refine r_iadd dX12_deed_146 ?_
          refine r_iload_n 3 dX12_deed_147 rfl rfl ?_
          refine r_iload 4 dX12_deed_148 rfl ?_
          refine r_iload 6 dX12_deed_150 rfl ?_
          refine r_isub dX12_deed_152 ?_
          obtain ⟨x42, hx42, h⟩ := b1_some h
          refine r_callSi (rest := [.ref (ad_ G 11), .int x41]) (by omega) (mX12_blockAt hx42) cb_X12_blockAt ml_X12_205 sm_X12_blockAt rfl rfl (Nat.le_of_ble_eq_true rfl) dX12_deed_153 ?_
          obtain ⟨x43, hx43, h⟩ := b1_some h
          refine r_iaload sM_11 hx43 dX12_deed_156 ?_
          refine r_iadd dX12_deed_157 ?_
          refine r_iload 5 dX12_deed_158 rfl ?_
          refine r_icmp_eq 169 dX12_deed_160 (by decide) (fun c44 => ?_) (fun c44 => ?_)
          · rw [if_pos c44] at h
            refine r_sub [(7, .int v39)] [6] rfl ?_
            obtain rfl := Option.some.inj h
            exact hX v39 rfl
          · rw [if_neg c44] at h
            refine r_iinc (v := v39 + 1) [(0, .ref (ad_ G 0)), (1, .int v1), (2, .int v2), (3, .int v3), (4, .int v4), (6, .int x22), (7, .int (v39 + 1))] 6 [1, 2, 3, 4, 5, 6, 0] dX12_deed_163 rfl rfl (by decide) rfl ?_
            refine r_goto 125 dX12_deed_166 (by decide) ?_
            obtain rfl := Option.some.inj h
            exact hB (v39 + 1) rfl
        obtain ⟨u45, hu45, h⟩ := b1_some h
        refine key u45 hu45 ?_
        show Rn G shM 3 yX12_deed cX12_deed 8 (some .int) 169 [(7, .int u45)] [] S post
        refine r_sipush (v := 200) dX12_deed_169 rfl ?_
        refine r_iload 0 dX12_deed_172 rfl ?_
        refine r_iadd dX12_deed_174 ?_
        obtain rfl := Option.some.inj h
        exact r_ireturn rfl dX12_deed_175 (hp)
      · refine key _ hu37 ?_
        show post (some (.int rr)) S
        obtain rfl := Option.some.inj h
        exact hp
    · refine key _ hu28 ?_
      show post (some (.int rr)) S
      obtain rfl := Option.some.inj h
      exact hp
  · rw [if_pos c46] at h
    refine r_bipush (v := (-5)) dX12_deed_20 rfl ?_
    obtain rfl := Option.some.inj h
    exact r_ireturn rfl dX12_deed_22 (hp)
theorem mX12_deed {G : Gx} {S : St} {v1 : Int32} {v2 : Int32} {v3 : Int32} {v4 : Int32} {v5 : Int32} {o : Int32}  (h : fX12_deed S v1 v2 v3 v4 v5 = some o) : MR_ G shM 3 yX12_deed cX12_deed 8 (some .int) [.ref (ad_ G 0), .int v1, .int v2, .int v3, .int v4, .int v5] S (PI_ o S) := MR_of cb_X12_deed (Nat.le_of_ble_eq_true rfl) [(0, .ref (ad_ G 0)), (1, .int v1), (2, .int v2), (3, .int v3), (4, .int v4), (5, .int v5)] rfl (tX12_deed  h ⟨rfl, rfl⟩)
set_option maxRecDepth 100000 in
set_option maxHeartbeats 4000000 in
theorem tX12_cut {G : Gx} {post : Option Value → St → Prop} {S : St} {v1 : Int32} {v2 : Int32} {v3 : Int32} {v4 : Int32} {o : (Int32 × St)}  (h : fX12_cut S v1 v2 v3 v4 = some o) (hp : post (some (.int o.1)) o.2) : Rn G shM 4 yX12_cut cX12_cut 5 (some .int) 0 [(0, .ref (ad_ G 0)), (1, .int v1), (2, .int v2), (3, .int v3), (4, .int v4)] [] S post := by
  unfold fX12_cut at h
  refine r_aload_n 0 dX12_cut_0 rfl rfl ?_
  refine r_iload_n 1 dX12_cut_1 rfl rfl ?_
  refine r_iload_n 2 dX12_cut_2 rfl rfl ?_
  refine r_iload_n 3 dX12_cut_3 rfl rfl ?_
  refine r_iload 4 dX12_cut_4 rfl ?_
  obtain ⟨x21, hx21, h⟩ := b1_some h
  refine r_callVi (k := 0) (rest := []) (by omega) (mX12_isBlock hx21) sM_0 rfl rfl cb_X12_isBlock ml_X12_186 im_X12_isBlock se_X12_isBlock rfl rfl (Nat.le_of_ble_eq_true rfl) dX12_cut_6 ?_
  refine r_if_ne 14 dX12_cut_9 (by decide) (fun c24 => ?_) (fun c24 => ?_)
  · rw [if_neg c24] at h
    refine r_aload_n 0 dX12_cut_14 rfl rfl ?_
    refine r_iconst (v := (-1)) dX12_cut_15 rfl ?_
    obtain ⟨S22, hS22, h⟩ := b1_some h
    refine r_callVv (k := 0) (rest := []) (by omega) (mX12_fills hS22) sM_0 rfl rfl cb_X12_fills ml_X12_208 im_X12_fills se_X12_fills rfl rfl (Nat.le_of_ble_eq_true rfl) dX12_cut_16 ?_
    refine r_aload_n 0 dX12_cut_19 rfl rfl ?_
    refine r_iload_n 1 dX12_cut_20 rfl rfl ?_
    refine r_iload_n 2 dX12_cut_21 rfl rfl ?_
    refine r_iload_n 3 dX12_cut_22 rfl rfl ?_
    refine r_iload 4 dX12_cut_23 rfl ?_
    refine r_iconst (v := (-1)) dX12_cut_25 rfl ?_
    obtain ⟨x23, hx23, h⟩ := b1_some h
    refine r_callVi (k := 0) (rest := []) (by omega) (mX12_deed hx23) sM_0 rfl rfl cb_X12_deed ml_X12_212 im_X12_deed se_X12_deed rfl rfl (Nat.le_of_ble_eq_true rfl) dX12_cut_26 ?_
    obtain rfl := Option.some.inj h
    exact r_ireturn rfl dX12_cut_29 (hp)
  · rw [if_pos c24] at h
    refine r_iconst (v := (-1)) dX12_cut_12 rfl ?_
    obtain rfl := Option.some.inj h
    exact r_ireturn rfl dX12_cut_13 (hp)
theorem mX12_cut {G : Gx} {S : St} {v1 : Int32} {v2 : Int32} {v3 : Int32} {v4 : Int32} {o : (Int32 × St)}  (h : fX12_cut S v1 v2 v3 v4 = some o) : MR_ G shM 4 yX12_cut cX12_cut 5 (some .int) [.ref (ad_ G 0), .int v1, .int v2, .int v3, .int v4] S (PI_ o.1 o.2) := MR_of cb_X12_cut (Nat.le_of_ble_eq_true rfl) [(0, .ref (ad_ G 0)), (1, .int v1), (2, .int v2), (3, .int v3), (4, .int v4)] rfl (tX12_cut  h ⟨rfl, rfl⟩)
set_option maxRecDepth 100000 in
set_option maxHeartbeats 4000000 in
theorem tX12_sawn {G : Gx} {post : Option Value → St → Prop} {S : St} {v1 : Int32} {o : (Int32 × St)}  (h : fX12_sawn S v1 = some o) (hp : post (some (.int o.1)) o.2) : Rn G shM 5 yX12_sawn cX12_sawn 14 (some .int) 0 [(0, .ref (ad_ G 0)), (1, .int v1)] [] S post := by
  unfold fX12_sawn at h
  refine r_iload_n 1 dX12_sawn_0 rfl rfl ?_
  refine r_i2l dX12_sawn_1 ?_
  refine r_lconst (v := 0) dX12_sawn_2 rfl ?_
  refine r_ldc2 kl_X12_216 dX12_sawn_3 ?_
  obtain ⟨x21, hx21, h⟩ := b1_some h
  refine r_callSi (rest := []) (by omega) (mX12_in hx21) cb_X12_in ml_X12_145 sm_X12_in rfl rfl (Nat.le_of_ble_eq_true rfl) dX12_sawn_6 ?_
  have key : ∀ ex, ((if x21 = 0 then (if v1 < 10 then some (.inr ((-1), S)) else b1 (fX12_isShape S (v1 - 10)) fun x58 => (if x58 = 0 then some (.inr ((-1), S)) else some (.inl ()))) else some (.inl ())) : Option ((Unit) ⊕ (Int32 × St))) = some ex → (∀ w22, ex = .inl w22 → Rn G shM 5 yX12_sawn cX12_sawn 14 (some .int) 31 [(0, .ref (ad_ G 0)), (1, .int v1)] [] S post) → (∀ r62, ex = .inr r62 → post (some (.int r62.1)) r62.2) → Rn G shM 5 yX12_sawn cX12_sawn 14 (some .int) 9 [(0, .ref (ad_ G 0)), (1, .int v1)] [.int x21] S post := by
    intro ex h hJ0 hR
    refine r_if_ne 31 dX12_sawn_9 (by decide) (fun c61 => ?_) (fun c61 => ?_)
    · rw [if_neg c61] at h
      obtain rfl := Option.some.inj h
      exact hJ0 _ rfl
    · rw [if_pos c61] at h
      refine r_iload_n 1 dX12_sawn_12 rfl rfl ?_
      refine r_bipush (v := 10) dX12_sawn_13 rfl ?_
      refine r_icmp_lt 29 dX12_sawn_15 (by decide) (fun c60 => ?_) (fun c60 => ?_)
      · rw [if_pos c60] at h
        refine r_iconst (v := (-1)) dX12_sawn_29 rfl ?_
        obtain rfl := Option.some.inj h
        exact r_ireturn rfl dX12_sawn_30 (hR ((-1), S) rfl)
      · rw [if_neg c60] at h
        refine r_aload_n 0 dX12_sawn_18 rfl rfl ?_
        refine r_iload_n 1 dX12_sawn_19 rfl rfl ?_
        refine r_bipush (v := 10) dX12_sawn_20 rfl ?_
        refine r_isub dX12_sawn_22 ?_
        obtain ⟨x58, hx58, h⟩ := b1_some h
        refine r_callVi (k := 0) (rest := []) (by omega) (mX12_isShape hx58) sM_0 rfl rfl cb_X12_isShape ml_X12_190 im_X12_isShape se_X12_isShape rfl rfl (Nat.le_of_ble_eq_true rfl) dX12_sawn_23 ?_
        refine r_if_ne 31 dX12_sawn_26 (by decide) (fun c59 => ?_) (fun c59 => ?_)
        · rw [if_neg c59] at h
          obtain rfl := Option.some.inj h
          exact hJ0 _ rfl
        · rw [if_pos c59] at h
          refine r_iconst (v := (-1)) dX12_sawn_29 rfl ?_
          obtain rfl := Option.some.inj h
          exact r_ireturn rfl dX12_sawn_30 (hR ((-1), S) rfl)
  rcases bs_some h with ⟨w22, hw22, h⟩ | ⟨r62, hw22, h⟩
  · refine key _ hw22 (fun z ez => ?_) (fun z ez => by cases ez)
    cases ez
    refine r_aload_n 0 dX12_sawn_31 rfl rfl ?_
    refine r_iconst (v := (-1)) dX12_sawn_32 rfl ?_
    obtain ⟨q23, hq23, h⟩ := b1_some h
    refine r_callVi (k := 0) (rest := []) (by omega) (mX12_mostOfAll hq23) sM_0 rfl rfl cb_X12_mostOfAll ml_X12_218 im_X12_mostOfAll se_X12_mostOfAll rfl rfl (Nat.le_of_ble_eq_true rfl) dX12_sawn_33 ?_
    refine r_istore_n (i := 2) [(0, .ref (ad_ G 0)), (1, .int v1), (2, .int q23.1)] [1, 2, 0] dX12_sawn_36 rfl (by decide) rfl ?_
    refine r_iconst (v := 0) dX12_sawn_37 rfl ?_
    refine r_istore_n (i := 3) [(0, .ref (ad_ G 0)), (1, .int v1), (2, .int q23.1), (3, .int 0)] [1, 2, 3, 0] dX12_sawn_38 rfl (by decide) rfl ?_
    refine r_iconst (v := 0) dX12_sawn_39 rfl ?_
    refine r_istore (i := 4) [(0, .ref (ad_ G 0)), (1, .int v1), (2, .int q23.1), (3, .int 0), (4, .int 0)] [1, 2, 3, 4, 0] dX12_sawn_40 (by decide) rfl ?_
    refine r_iconst (v := 0) dX12_sawn_42 rfl ?_
    refine r_istore (i := 5) [(0, .ref (ad_ G 0)), (1, .int v1), (2, .int q23.1), (3, .int 0), (4, .int 0), (5, .int 0)] [1, 2, 3, 4, 5, 0] dX12_sawn_43 (by decide) rfl ?_
    refine r_iconst (v := 0) dX12_sawn_45 rfl ?_
    refine r_istore (i := 6) [(0, .ref (ad_ G 0)), (1, .int v1), (2, .int q23.1), (3, .int 0), (4, .int 0), (5, .int 0), (6, .int 0)] [1, 2, 3, 4, 5, 6, 0] dX12_sawn_46 (by decide) rfl ?_
    refine r_iconst (v := 1) dX12_sawn_48 rfl ?_
    refine r_istore (i := 7) [(0, .ref (ad_ G 0)), (1, .int v1), (2, .int q23.1), (3, .int 0), (4, .int 0), (5, .int 0), (6, .int 0), (7, .int 1)] [1, 2, 3, 4, 5, 6, 7, 0] dX12_sawn_49 (by decide) rfl ?_
    refine r_aload_n 0 dX12_sawn_51 rfl rfl ?_
    refine r_getC (k := 0) (j := 16) (r := 12) sM_0 rfl fl_X12_51 dX12_sawn_52 ?_
    refine r_iconst (v := 0) dX12_sawn_55 rfl ?_
    refine r_iconst (v := 0) dX12_sawn_56 rfl ?_
    refine r_iconst (v := 0) dX12_sawn_57 rfl ?_
    refine r_aload_n 0 dX12_sawn_58 rfl rfl ?_
    refine r_getI (k := 0) (j := 0) sM_0 rfl fl_X12_7 dX12_sawn_59 ?_
    refine r_aload_n 0 dX12_sawn_62 rfl rfl ?_
    refine r_getI (k := 0) (j := 1) sM_0 rfl fl_X12_13 dX12_sawn_63 ?_
    obtain ⟨x24, hx24, h⟩ := b1_some h
    refine r_callSi (rest := [.int 0, .ref (ad_ G 12)]) (by omega) (mX12_blockAt hx24) cb_X12_blockAt ml_X12_205 sm_X12_blockAt rfl rfl (Nat.le_of_ble_eq_true rfl) dX12_sawn_66 ?_
    obtain ⟨S25, hS25, h⟩ := b1_some h
    refine r_iastore sM_12 hS25 dX12_sawn_69 ?_
    have key : ∀ ex, lp (fun w26 : Int32 × Int32 × Int32 × Int32 × Int32 × St => bX12_sawn_70 v1 w26.1 w26.2.1 w26.2.2.1 w26.2.2.2.1 w26.2.2.2.2.1 w26.2.2.2.2.2) 5000 (0, 0, 0, 0, 1, S25) = some ex → (fun u53 : Int32 × Int32 × Int32 × Int32 × St => Rn G shM 5 yX12_sawn cX12_sawn 14 (some .int) 314 [(1, .int v1), (2, .int q23.1), (3, .int u53.1), (4, .int u53.2.1), (5, .int u53.2.2.1), (6, .int u53.2.2.2.1)] [] u53.2.2.2.2 post) ex → Rn G shM 5 yX12_sawn cX12_sawn 14 (some .int) 70 [(0, .ref (ad_ G 0)), (1, .int v1), (2, .int q23.1), (3, .int 0), (4, .int 0), (5, .int 0), (6, .int 0), (7, .int 1)] [] S25 post := by
      intro ex hl hx
      refine lp_rule (body := (fun w26 : Int32 × Int32 × Int32 × Int32 × Int32 × St => bX12_sawn_70 v1 w26.1 w26.2.1 w26.2.2.1 w26.2.2.2.1 w26.2.2.2.2.1 w26.2.2.2.2.2)) (R := (fun w26 : Int32 × Int32 × Int32 × Int32 × Int32 × St => Rn G shM 5 yX12_sawn cX12_sawn 14 (some .int) 70 [(0, .ref (ad_ G 0)), (1, .int v1), (2, .int q23.1), (3, .int w26.1), (4, .int w26.2.1), (5, .int w26.2.2.1), (6, .int w26.2.2.2.1), (7, .int w26.2.2.2.2.1)] [] w26.2.2.2.2.2 post)) (X := (fun u53 : Int32 × Int32 × Int32 × Int32 × St => Rn G shM 5 yX12_sawn cX12_sawn 14 (some .int) 314 [(1, .int v1), (2, .int q23.1), (3, .int u53.1), (4, .int u53.2.1), (5, .int u53.2.2.1), (6, .int u53.2.2.2.1)] [] u53.2.2.2.2 post)) ?_ 5000 (0, 0, 0, 0, 1, S25) ex hl hx
      intro w26 oo h hB hX
      obtain ⟨v27, v28, v29, v30, v31, S32⟩ := w26
      replace h : bX12_sawn_70 v1 v27 v28 v29 v30 v31 S32 = some oo := h
      unfold bX12_sawn_70 at h
      show Rn G shM 5 yX12_sawn cX12_sawn 14 (some .int) 70 [(0, .ref (ad_ G 0)), (1, .int v1), (2, .int q23.1), (3, .int v27), (4, .int v28), (5, .int v29), (6, .int v30), (7, .int v31)] [] S32 post
      refine r_iload 7 dX12_sawn_70 rfl ?_
      refine r_if_le 314 dX12_sawn_72 (by decide) (fun c52 => ?_) (fun c52 => ?_)
      · rw [if_pos c52] at h
        refine r_sub [(1, .int v1), (2, .int q23.1), (3, .int v27), (4, .int v28), (5, .int v29), (6, .int v30)] [1, 2, 3, 4, 5, 6] rfl ?_
        obtain rfl := Option.some.inj h
        exact hX (v27, v28, v29, v30, S32) rfl
      · rw [if_neg c52] at h
        refine r_iinc (v := v31 + (-1)) [(0, .ref (ad_ G 0)), (1, .int v1), (2, .int q23.1), (3, .int v27), (4, .int v28), (5, .int v29), (6, .int v30), (7, .int (v31 + (-1)))] 7 [1, 2, 3, 4, 5, 6, 7, 0] dX12_sawn_75 rfl rfl (by decide) rfl ?_
        refine r_aload_n 0 dX12_sawn_78 rfl rfl ?_
        refine r_getC (k := 0) (j := 16) (r := 12) sM_0 rfl fl_X12_51 dX12_sawn_79 ?_
        refine r_iload 7 dX12_sawn_82 rfl ?_
        obtain ⟨x33, hx33, h⟩ := b1_some h
        refine r_iaload sM_12 hx33 dX12_sawn_84 ?_
        refine r_bipush (v := 8) dX12_sawn_85 rfl ?_
        refine r_irem dX12_sawn_87 (by decide) ?_
        refine r_istore (i := 8) [(0, .ref (ad_ G 0)), (1, .int v1), (2, .int q23.1), (3, .int v27), (4, .int v28), (5, .int v29), (6, .int v30), (7, .int (v31 + (-1))), (8, .int (x33 - x33 / 8 * 8))] [1, 2, 3, 4, 5, 6, 7, 8, 0] dX12_sawn_88 (by decide) rfl ?_
        refine r_aload_n 0 dX12_sawn_90 rfl rfl ?_
        refine r_getC (k := 0) (j := 16) (r := 12) sM_0 rfl fl_X12_51 dX12_sawn_91 ?_
        refine r_iload 7 dX12_sawn_94 rfl ?_
        obtain ⟨x34, hx34, h⟩ := b1_some h
        refine r_iaload sM_12 hx34 dX12_sawn_96 ?_
        refine r_bipush (v := 8) dX12_sawn_97 rfl ?_
        refine r_idiv dX12_sawn_99 (by decide) ?_
        refine r_bipush (v := 8) dX12_sawn_100 rfl ?_
        refine r_irem dX12_sawn_102 (by decide) ?_
        refine r_istore (i := 9) [(0, .ref (ad_ G 0)), (1, .int v1), (2, .int q23.1), (3, .int v27), (4, .int v28), (5, .int v29), (6, .int v30), (7, .int (v31 + (-1))), (8, .int (x33 - x33 / 8 * 8)), (9, .int ((x34 / 8) - (x34 / 8) / 8 * 8))] [1, 2, 3, 4, 5, 6, 7, 8, 9, 0] dX12_sawn_103 (by decide) rfl ?_
        refine r_aload_n 0 dX12_sawn_105 rfl rfl ?_
        refine r_getC (k := 0) (j := 16) (r := 12) sM_0 rfl fl_X12_51 dX12_sawn_106 ?_
        refine r_iload 7 dX12_sawn_109 rfl ?_
        obtain ⟨x35, hx35, h⟩ := b1_some h
        refine r_iaload sM_12 hx35 dX12_sawn_111 ?_
        refine r_bipush (v := 64) dX12_sawn_112 rfl ?_
        refine r_idiv dX12_sawn_114 (by decide) ?_
        refine r_bipush (v := 8) dX12_sawn_115 rfl ?_
        refine r_irem dX12_sawn_117 (by decide) ?_
        refine r_iconst (v := 1) dX12_sawn_118 rfl ?_
        refine r_iadd dX12_sawn_119 ?_
        refine r_istore (i := 10) [(0, .ref (ad_ G 0)), (1, .int v1), (2, .int q23.1), (3, .int v27), (4, .int v28), (5, .int v29), (6, .int v30), (7, .int (v31 + (-1))), (8, .int (x33 - x33 / 8 * 8)), (9, .int ((x34 / 8) - (x34 / 8) / 8 * 8)), (10, .int (((x35 / 64) - (x35 / 64) / 8 * 8) + 1))] [1, 2, 3, 4, 5, 6, 7, 8, 9, 10, 0] dX12_sawn_120 (by decide) rfl ?_
        refine r_aload_n 0 dX12_sawn_122 rfl rfl ?_
        refine r_getC (k := 0) (j := 16) (r := 12) sM_0 rfl fl_X12_51 dX12_sawn_123 ?_
        refine r_iload 7 dX12_sawn_126 rfl ?_
        obtain ⟨x36, hx36, h⟩ := b1_some h
        refine r_iaload sM_12 hx36 dX12_sawn_128 ?_
        refine r_sipush (v := 512) dX12_sawn_129 rfl ?_
        refine r_idiv dX12_sawn_132 (by decide) ?_
        refine r_iconst (v := 1) dX12_sawn_133 rfl ?_
        refine r_iadd dX12_sawn_134 ?_
        refine r_istore (i := 11) [(0, .ref (ad_ G 0)), (1, .int v1), (2, .int q23.1), (3, .int v27), (4, .int v28), (5, .int v29), (6, .int v30), (7, .int (v31 + (-1))), (8, .int (x33 - x33 / 8 * 8)), (9, .int ((x34 / 8) - (x34 / 8) / 8 * 8)), (10, .int (((x35 / 64) - (x35 / 64) / 8 * 8) + 1)), (11, .int ((x36 / 512) + 1))] [1, 2, 3, 4, 5, 6, 7, 8, 9, 10, 11, 0] dX12_sawn_135 (by decide) rfl ?_
        refine r_aload_n 0 dX12_sawn_137 rfl rfl ?_
        refine r_iload 8 dX12_sawn_138 rfl ?_
        refine r_iload 9 dX12_sawn_140 rfl ?_
        refine r_iload 10 dX12_sawn_142 rfl ?_
        refine r_iload 11 dX12_sawn_144 rfl ?_
        refine r_iconst (v := (-1)) dX12_sawn_146 rfl ?_
        obtain ⟨x37, hx37, h⟩ := b1_some h
        refine r_callVi (k := 0) (rest := []) (by omega) (mX12_deed hx37) sM_0 rfl rfl cb_X12_deed ml_X12_212 im_X12_deed se_X12_deed rfl rfl (Nat.le_of_ble_eq_true rfl) dX12_sawn_147 ?_
        refine r_istore (i := 12) [(0, .ref (ad_ G 0)), (1, .int v1), (2, .int q23.1), (3, .int v27), (4, .int v28), (5, .int v29), (6, .int v30), (7, .int (v31 + (-1))), (8, .int (x33 - x33 / 8 * 8)), (9, .int ((x34 / 8) - (x34 / 8) / 8 * 8)), (10, .int (((x35 / 64) - (x35 / 64) / 8 * 8) + 1)), (11, .int ((x36 / 512) + 1)), (12, .int x37)] [1, 2, 3, 4, 5, 6, 7, 8, 9, 10, 11, 12, 0] dX12_sawn_150 (by decide) rfl ?_
        refine r_iload 12 dX12_sawn_152 rfl ?_
        refine r_bipush (v := (-5)) dX12_sawn_154 rfl ?_
        refine r_icmp_ne 172 dX12_sawn_156 (by decide) (fun c51 => ?_) (fun c51 => ?_)
        · rw [if_neg c51] at h
          refine r_iload 12 dX12_sawn_172 rfl ?_
          refine r_bipush (v := 100) dX12_sawn_174 rfl ?_
          refine r_icmp_ge 204 dX12_sawn_176 (by decide) (fun c49 => ?_) (fun c49 => ?_)
          · rw [if_pos c49] at h
            refine r_iinc (v := v28 + 1) [(0, .ref (ad_ G 0)), (1, .int v1), (2, .int q23.1), (3, .int v27), (4, .int (v28 + 1)), (5, .int v29), (6, .int v30), (7, .int (v31 + (-1))), (8, .int (x33 - x33 / 8 * 8)), (9, .int ((x34 / 8) - (x34 / 8) / 8 * 8)), (10, .int (((x35 / 64) - (x35 / 64) / 8 * 8) + 1)), (11, .int ((x36 / 512) + 1)), (12, .int x37)] 4 [1, 2, 3, 4, 0, 5, 6, 7, 8, 9, 10, 11, 12] dX12_sawn_204 rfl rfl (by decide) rfl ?_
            refine r_iload 12 dX12_sawn_207 rfl ?_
            refine r_bipush (v := 100) dX12_sawn_209 rfl ?_
            refine r_irem dX12_sawn_211 (by decide) ?_
            refine r_istore (i := 13) [(0, .ref (ad_ G 0)), (1, .int v1), (2, .int q23.1), (3, .int v27), (4, .int (v28 + 1)), (5, .int v29), (6, .int v30), (7, .int (v31 + (-1))), (8, .int (x33 - x33 / 8 * 8)), (9, .int ((x34 / 8) - (x34 / 8) / 8 * 8)), (10, .int (((x35 / 64) - (x35 / 64) / 8 * 8) + 1)), (11, .int ((x36 / 512) + 1)), (12, .int x37), (13, .int (x37 - x37 / 100 * 100))] [1, 2, 3, 4, 5, 6, 7, 8, 9, 10, 11, 12, 13, 0] dX12_sawn_212 (by decide) rfl ?_
            refine r_aload_n 0 dX12_sawn_214 rfl rfl ?_
            refine r_getC (k := 0) (j := 16) (r := 12) sM_0 rfl fl_X12_51 dX12_sawn_215 ?_
            refine r_iload 7 dX12_sawn_218 rfl ?_
            refine r_iload 12 dX12_sawn_220 rfl ?_
            refine r_sipush (v := 200) dX12_sawn_222 rfl ?_
            obtain ⟨w38, hw38, h⟩ := b1_some h
            have hJ : Rn G shM 5 yX12_sawn cX12_sawn 14 (some .int) 253 [(0, .ref (ad_ G 0)), (1, .int v1), (2, .int q23.1), (3, .int v27), (4, .int (v28 + 1)), (5, .int v29), (6, .int v30), (7, .int (v31 + (-1))), (8, .int (x33 - x33 / 8 * 8)), (9, .int ((x34 / 8) - (x34 / 8) / 8 * 8)), (10, .int (((x35 / 64) - (x35 / 64) / 8 * 8) + 1)), (11, .int ((x36 / 512) + 1)), (12, .int x37), (13, .int (x37 - x37 / 100 * 100))] [.int w38, .int (v31 + (-1)), .ref (ad_ G 12)] S32 post := by
              obtain ⟨S39, hS39, h⟩ := b1_some h
              refine r_iastore sM_12 hS39 dX12_sawn_253 ?_
              refine r_aload_n 0 dX12_sawn_254 rfl rfl ?_
              refine r_getC (k := 0) (j := 16) (r := 12) sM_0 rfl fl_X12_51 dX12_sawn_255 ?_
              refine r_iload 7 dX12_sawn_258 rfl ?_
              refine r_iconst (v := 1) dX12_sawn_260 rfl ?_
              refine r_iadd dX12_sawn_261 ?_
              refine r_iload 12 dX12_sawn_262 rfl ?_
              refine r_sipush (v := 200) dX12_sawn_264 rfl ?_
              refine r_icmp_ge 290 dX12_sawn_267 (by decide) (fun c44 => ?_) (fun c44 => ?_)
              · rw [if_pos c44] at h
                refine r_iload 8 dX12_sawn_290 rfl ?_
                refine r_iload 9 dX12_sawn_292 rfl ?_
                refine r_iload 13 dX12_sawn_294 rfl ?_
                refine r_iadd dX12_sawn_296 ?_
                refine r_iload 10 dX12_sawn_297 rfl ?_
                refine r_iload 11 dX12_sawn_299 rfl ?_
                refine r_iload 13 dX12_sawn_301 rfl ?_
                refine r_isub dX12_sawn_303 ?_
                obtain ⟨x40, hx40, h⟩ := b1_some h
                refine r_callSi (rest := [.int ((v31 + (-1)) + 1), .ref (ad_ G 12)]) (by omega) (mX12_blockAt hx40) cb_X12_blockAt ml_X12_205 sm_X12_blockAt rfl rfl (Nat.le_of_ble_eq_true rfl) dX12_sawn_304 ?_
                obtain ⟨S41, hS41, h⟩ := b1_some h
                refine r_iastore sM_12 hS41 dX12_sawn_307 ?_
                refine r_iinc (v := (v31 + (-1)) + 2) [(0, .ref (ad_ G 0)), (1, .int v1), (2, .int q23.1), (3, .int v27), (4, .int (v28 + 1)), (5, .int v29), (6, .int v30), (7, .int ((v31 + (-1)) + 2)), (8, .int (x33 - x33 / 8 * 8)), (9, .int ((x34 / 8) - (x34 / 8) / 8 * 8)), (10, .int (((x35 / 64) - (x35 / 64) / 8 * 8) + 1)), (11, .int ((x36 / 512) + 1)), (12, .int x37), (13, .int (x37 - x37 / 100 * 100))] 7 [1, 2, 3, 4, 5, 6, 7, 0, 8, 9, 10, 11, 12, 13] dX12_sawn_308 rfl rfl (by decide) rfl ?_
                refine r_goto 70 dX12_sawn_311 (by decide) ?_
                refine r_sub [(0, .ref (ad_ G 0)), (1, .int v1), (2, .int q23.1), (3, .int v27), (4, .int (v28 + 1)), (5, .int v29), (6, .int v30), (7, .int ((v31 + (-1)) + 2))] [0, 1, 2, 3, 4, 5, 6, 7] rfl ?_
                obtain rfl := Option.some.inj h
                exact hB (v27, v28 + 1, v29, v30, (v31 + (-1)) + 2, S41) rfl
              · rw [if_neg c44] at h
                refine r_iload 8 dX12_sawn_270 rfl ?_
                refine r_iload 13 dX12_sawn_272 rfl ?_
                refine r_iadd dX12_sawn_274 ?_
                refine r_iload 9 dX12_sawn_275 rfl ?_
                refine r_iload 10 dX12_sawn_277 rfl ?_
                refine r_iload 13 dX12_sawn_279 rfl ?_
                refine r_isub dX12_sawn_281 ?_
                refine r_iload 11 dX12_sawn_282 rfl ?_
                obtain ⟨x42, hx42, h⟩ := b1_some h
                refine r_callSi (rest := [.int ((v31 + (-1)) + 1), .ref (ad_ G 12)]) (by omega) (mX12_blockAt hx42) cb_X12_blockAt ml_X12_205 sm_X12_blockAt rfl rfl (Nat.le_of_ble_eq_true rfl) dX12_sawn_284 ?_
                refine r_goto 307 dX12_sawn_287 (by decide) ?_
                obtain ⟨S43, hS43, h⟩ := b1_some h
                refine r_iastore sM_12 hS43 dX12_sawn_307 ?_
                refine r_iinc (v := (v31 + (-1)) + 2) [(0, .ref (ad_ G 0)), (1, .int v1), (2, .int q23.1), (3, .int v27), (4, .int (v28 + 1)), (5, .int v29), (6, .int v30), (7, .int ((v31 + (-1)) + 2)), (8, .int (x33 - x33 / 8 * 8)), (9, .int ((x34 / 8) - (x34 / 8) / 8 * 8)), (10, .int (((x35 / 64) - (x35 / 64) / 8 * 8) + 1)), (11, .int ((x36 / 512) + 1)), (12, .int x37), (13, .int (x37 - x37 / 100 * 100))] 7 [1, 2, 3, 4, 5, 6, 7, 0, 8, 9, 10, 11, 12, 13] dX12_sawn_308 rfl rfl (by decide) rfl ?_
                refine r_goto 70 dX12_sawn_311 (by decide) ?_
                refine r_sub [(0, .ref (ad_ G 0)), (1, .int v1), (2, .int q23.1), (3, .int v27), (4, .int (v28 + 1)), (5, .int v29), (6, .int v30), (7, .int ((v31 + (-1)) + 2))] [0, 1, 2, 3, 4, 5, 6, 7] rfl ?_
                obtain rfl := Option.some.inj h
                exact hB (v27, v28 + 1, v29, v30, (v31 + (-1)) + 2, S43) rfl
            clear h
            replace h := hw38
            refine r_icmp_ge 242 dX12_sawn_225 (by decide) (fun c47 => ?_) (fun c47 => ?_)
            · rw [if_pos c47] at h
              refine r_iload 8 dX12_sawn_242 rfl ?_
              refine r_iload 9 dX12_sawn_244 rfl ?_
              refine r_iload 10 dX12_sawn_246 rfl ?_
              refine r_iload 13 dX12_sawn_248 rfl ?_
              obtain ⟨x45, hx45, h⟩ := b1_some h
              refine r_callSi (rest := [.int (v31 + (-1)), .ref (ad_ G 12)]) (by omega) (mX12_blockAt hx45) cb_X12_blockAt ml_X12_205 sm_X12_blockAt rfl rfl (Nat.le_of_ble_eq_true rfl) dX12_sawn_250 ?_
              obtain rfl := Option.some.inj h
              exact hJ
            · rw [if_neg c47] at h
              refine r_iload 8 dX12_sawn_228 rfl ?_
              refine r_iload 9 dX12_sawn_230 rfl ?_
              refine r_iload 13 dX12_sawn_232 rfl ?_
              refine r_iload 11 dX12_sawn_234 rfl ?_
              obtain ⟨x46, hx46, h⟩ := b1_some h
              refine r_callSi (rest := [.int (v31 + (-1)), .ref (ad_ G 12)]) (by omega) (mX12_blockAt hx46) cb_X12_blockAt ml_X12_205 sm_X12_blockAt rfl rfl (Nat.le_of_ble_eq_true rfl) dX12_sawn_236 ?_
              refine r_goto 253 dX12_sawn_239 (by decide) ?_
              obtain rfl := Option.some.inj h
              exact hJ
          · rw [if_neg c49] at h
            refine r_iinc (v := v27 + 1) [(0, .ref (ad_ G 0)), (1, .int v1), (2, .int q23.1), (3, .int (v27 + 1)), (4, .int v28), (5, .int v29), (6, .int v30), (7, .int (v31 + (-1))), (8, .int (x33 - x33 / 8 * 8)), (9, .int ((x34 / 8) - (x34 / 8) / 8 * 8)), (10, .int (((x35 / 64) - (x35 / 64) / 8 * 8) + 1)), (11, .int ((x36 / 512) + 1)), (12, .int x37)] 3 [1, 2, 3, 0, 4, 5, 6, 7, 8, 9, 10, 11, 12] dX12_sawn_179 rfl rfl (by decide) rfl ?_
            refine r_iload 6 dX12_sawn_182 rfl ?_
            refine r_iload 12 dX12_sawn_184 rfl ?_
            refine r_iload_n 1 dX12_sawn_186 rfl rfl ?_
            refine r_bipush (v := 10) dX12_sawn_187 rfl ?_
            refine r_isub dX12_sawn_189 ?_
            refine r_icmp_ne 197 dX12_sawn_190 (by decide) (fun c48 => ?_) (fun c48 => ?_)
            · rw [if_neg c48] at h
              refine r_iconst (v := 0) dX12_sawn_197 rfl ?_
              refine r_iadd dX12_sawn_198 ?_
              refine r_istore (i := 6) [(0, .ref (ad_ G 0)), (1, .int v1), (2, .int q23.1), (3, .int (v27 + 1)), (4, .int v28), (5, .int v29), (6, .int (v30 + 0)), (7, .int (v31 + (-1))), (8, .int (x33 - x33 / 8 * 8)), (9, .int ((x34 / 8) - (x34 / 8) / 8 * 8)), (10, .int (((x35 / 64) - (x35 / 64) / 8 * 8) + 1)), (11, .int ((x36 / 512) + 1)), (12, .int x37)] [1, 2, 3, 4, 5, 6, 0, 7, 8, 9, 10, 11, 12] dX12_sawn_199 (by decide) rfl ?_
              refine r_goto 311 dX12_sawn_201 (by decide) ?_
              refine r_goto 70 dX12_sawn_311 (by decide) ?_
              refine r_sub [(0, .ref (ad_ G 0)), (1, .int v1), (2, .int q23.1), (3, .int (v27 + 1)), (4, .int v28), (5, .int v29), (6, .int (v30 + 0)), (7, .int (v31 + (-1)))] [0, 1, 2, 3, 4, 5, 6, 7] rfl ?_
              obtain rfl := Option.some.inj h
              exact hB (v27 + 1, v28, v29, v30 + 0, v31 + (-1), S32) rfl
            · rw [if_pos c48] at h
              refine r_iconst (v := 1) dX12_sawn_193 rfl ?_
              refine r_goto 198 dX12_sawn_194 (by decide) ?_
              refine r_iadd dX12_sawn_198 ?_
              refine r_istore (i := 6) [(0, .ref (ad_ G 0)), (1, .int v1), (2, .int q23.1), (3, .int (v27 + 1)), (4, .int v28), (5, .int v29), (6, .int (v30 + 1)), (7, .int (v31 + (-1))), (8, .int (x33 - x33 / 8 * 8)), (9, .int ((x34 / 8) - (x34 / 8) / 8 * 8)), (10, .int (((x35 / 64) - (x35 / 64) / 8 * 8) + 1)), (11, .int ((x36 / 512) + 1)), (12, .int x37)] [1, 2, 3, 4, 5, 6, 0, 7, 8, 9, 10, 11, 12] dX12_sawn_199 (by decide) rfl ?_
              refine r_goto 311 dX12_sawn_201 (by decide) ?_
              refine r_goto 70 dX12_sawn_311 (by decide) ?_
              refine r_sub [(0, .ref (ad_ G 0)), (1, .int v1), (2, .int q23.1), (3, .int (v27 + 1)), (4, .int v28), (5, .int v29), (6, .int (v30 + 1)), (7, .int (v31 + (-1)))] [0, 1, 2, 3, 4, 5, 6, 7] rfl ?_
              obtain rfl := Option.some.inj h
              exact hB (v27 + 1, v28, v29, v30 + 1, v31 + (-1), S32) rfl
        · rw [if_pos c51] at h
          refine r_iload 5 dX12_sawn_159 rfl ?_
          refine r_iload 10 dX12_sawn_161 rfl ?_
          refine r_iload 11 dX12_sawn_163 rfl ?_
          refine r_imul dX12_sawn_165 ?_
          refine r_iadd dX12_sawn_166 ?_
          obtain ⟨x50, hx50, h⟩ := b1_some h
          rw [Option.some.inj hx50]
          refine r_istore (i := 5) [(0, .ref (ad_ G 0)), (1, .int v1), (2, .int q23.1), (3, .int v27), (4, .int v28), (5, .int x50), (6, .int v30), (7, .int (v31 + (-1))), (8, .int (x33 - x33 / 8 * 8)), (9, .int ((x34 / 8) - (x34 / 8) / 8 * 8)), (10, .int (((x35 / 64) - (x35 / 64) / 8 * 8) + 1)), (11, .int ((x36 / 512) + 1)), (12, .int x37)] [1, 2, 3, 4, 5, 0, 6, 7, 8, 9, 10, 11, 12] dX12_sawn_167 (by decide) rfl ?_
          refine r_goto 311 dX12_sawn_169 (by decide) ?_
          refine r_goto 70 dX12_sawn_311 (by decide) ?_
          refine r_sub [(0, .ref (ad_ G 0)), (1, .int v1), (2, .int q23.1), (3, .int v27), (4, .int v28), (5, .int x50), (6, .int v30), (7, .int (v31 + (-1)))] [0, 1, 2, 3, 4, 5, 6, 7] rfl ?_
          obtain rfl := Option.some.inj h
          exact hB (v27, v28, x50, v30, v31 + (-1), S32) rfl
    obtain ⟨u53, hu53, h⟩ := b1_some h
    refine key u53 hu53 ?_
    show Rn G shM 5 yX12_sawn cX12_sawn 14 (some .int) 314 [(1, .int v1), (2, .int q23.1), (3, .int u53.1), (4, .int u53.2.1), (5, .int u53.2.2.1), (6, .int u53.2.2.2.1)] [] u53.2.2.2.2 post
    refine r_iload_n 0 dX12_sawn_314 rfl rfl ?_
    refine r_if_ne 322 dX12_sawn_315 (by decide) (fun c57 => ?_) (fun c57 => ?_)
    · rw [if_neg c57] at h
      refine r_iload_n 0 dX12_sawn_322 rfl rfl ?_
      refine r_iconst (v := 1) dX12_sawn_323 rfl ?_
      refine r_icmp_ne 331 dX12_sawn_324 (by decide) (fun c56 => ?_) (fun c56 => ?_)
      · rw [if_neg c56] at h
        refine r_iload_n 0 dX12_sawn_331 rfl rfl ?_
        refine r_iconst (v := 2) dX12_sawn_332 rfl ?_
        refine r_icmp_ne 341 dX12_sawn_333 (by decide) (fun c55 => ?_) (fun c55 => ?_)
        · rw [if_neg c55] at h
          refine r_iload_n 0 dX12_sawn_341 rfl rfl ?_
          refine r_iconst (v := 3) dX12_sawn_342 rfl ?_
          refine r_icmp_ne 351 dX12_sawn_343 (by decide) (fun c54 => ?_) (fun c54 => ?_)
          · rw [if_neg c54] at h
            refine r_iload 5 dX12_sawn_351 rfl ?_
            obtain rfl := Option.some.inj h
            exact r_ireturn rfl dX12_sawn_353 (hp)
          · rw [if_pos c54] at h
            refine r_iload 4 dX12_sawn_346 rfl ?_
            refine r_goto 353 dX12_sawn_348 (by decide) ?_
            obtain rfl := Option.some.inj h
            exact r_ireturn rfl dX12_sawn_353 (hp)
        · rw [if_pos c55] at h
          refine r_iload 3 dX12_sawn_336 rfl ?_
          refine r_goto 353 dX12_sawn_338 (by decide) ?_
          obtain rfl := Option.some.inj h
          exact r_ireturn rfl dX12_sawn_353 (hp)
      · rw [if_pos c56] at h
        refine r_iload_n 2 dX12_sawn_327 rfl rfl ?_
        refine r_goto 353 dX12_sawn_328 (by decide) ?_
        obtain rfl := Option.some.inj h
        exact r_ireturn rfl dX12_sawn_353 (hp)
    · rw [if_pos c57] at h
      refine r_iload_n 1 dX12_sawn_318 rfl rfl ?_
      refine r_goto 353 dX12_sawn_319 (by decide) ?_
      obtain rfl := Option.some.inj h
      exact r_ireturn rfl dX12_sawn_353 (hp)
  · refine key _ hw22 (fun z ez => by cases ez) (fun z ez => ?_)
    cases ez
    obtain rfl := Option.some.inj h
    exact hp
theorem mX12_sawn {G : Gx} {S : St} {v1 : Int32} {o : (Int32 × St)}  (h : fX12_sawn S v1 = some o) : MR_ G shM 5 yX12_sawn cX12_sawn 14 (some .int) [.ref (ad_ G 0), .int v1] S (PI_ o.1 o.2) := MR_of cb_X12_sawn (Nat.le_of_ble_eq_true rfl) [(0, .ref (ad_ G 0)), (1, .int v1)] rfl (tX12_sawn  h ⟨rfl, rfl⟩)
set_option maxRecDepth 100000 in
set_option maxHeartbeats 4000000 in
theorem tX12_costs {G : Gx} {post : Option Value → St → Prop} {S : St} {v1 : Int32} {v2 : Int32} {o : (Int32 × St)}  (h : fX12_costs S v1 v2 = some o) (hp : post (some (.int o.1)) o.2) : Rn G shM 5 yX12_costs cX12_costs 6 (some .int) 0 [(0, .ref (ad_ G 0)), (1, .int v1), (2, .int v2)] [] S post := by
  unfold fX12_costs at h
  refine r_aload_n 0 dX12_costs_0 rfl rfl ?_
  refine r_iload_n 1 dX12_costs_1 rfl rfl ?_
  refine r_iload_n 2 dX12_costs_2 rfl rfl ?_
  obtain ⟨x21, hx21, h⟩ := b1_some h
  refine r_callVi (k := 0) (rest := []) (by omega) (mX12_isSquare hx21) sM_0 rfl rfl cb_X12_isSquare ml_X12_149 im_X12_isSquare se_X12_isSquare rfl rfl (Nat.le_of_ble_eq_true rfl) dX12_costs_3 ?_
  refine r_if_ne 11 dX12_costs_6 (by decide) (fun c27 => ?_) (fun c27 => ?_)
  · rw [if_neg c27] at h
    refine r_aload_n 0 dX12_costs_11 rfl rfl ?_
    refine r_iconst (v := (-1)) dX12_costs_12 rfl ?_
    obtain ⟨q22, hq22, h⟩ := b1_some h
    refine r_callVi (k := 0) (rest := []) (by omega) (mX12_mostOfAll hq22) sM_0 rfl rfl cb_X12_mostOfAll ml_X12_218 im_X12_mostOfAll se_X12_mostOfAll rfl rfl (Nat.le_of_ble_eq_true rfl) dX12_costs_13 ?_
    refine r_istore_n (i := 3) [(0, .ref (ad_ G 0)), (1, .int v1), (2, .int v2), (3, .int q22.1)] [1, 2, 3, 0] dX12_costs_16 rfl (by decide) rfl ?_
    refine r_aload_n 0 dX12_costs_17 rfl rfl ?_
    refine r_getC (k := 0) (j := 2) (r := 1) sM_0 rfl fl_X12_16 dX12_costs_18 ?_
    refine r_bipush (v := 8) dX12_costs_21 rfl ?_
    refine r_iload_n 2 dX12_costs_23 rfl rfl ?_
    refine r_imul dX12_costs_24 ?_
    refine r_iload_n 1 dX12_costs_25 rfl rfl ?_
    refine r_iadd dX12_costs_26 ?_
    obtain ⟨x23, hx23, h⟩ := b1_some h
    refine r_zaload sM_1 hx23 dX12_costs_27 ?_
    refine r_istore (i := 4) [(0, .ref (ad_ G 0)), (1, .int v1), (2, .int v2), (3, .int q22.1), (4, .int x23)] [1, 2, 3, 4, 0] dX12_costs_28 (by decide) rfl ?_
    refine r_aload_n 0 dX12_costs_30 rfl rfl ?_
    refine r_getC (k := 0) (j := 2) (r := 1) sM_0 rfl fl_X12_16 dX12_costs_31 ?_
    refine r_bipush (v := 8) dX12_costs_34 rfl ?_
    refine r_iload_n 2 dX12_costs_36 rfl rfl ?_
    refine r_imul dX12_costs_37 ?_
    refine r_iload_n 1 dX12_costs_38 rfl rfl ?_
    refine r_iadd dX12_costs_39 ?_
    refine r_iconst (v := 1) dX12_costs_40 rfl ?_
    obtain ⟨S24, hS24, h⟩ := b1_some h
    refine r_zastore sM_1 hS24 dX12_costs_41 ?_
    refine r_aload_n 0 dX12_costs_42 rfl rfl ?_
    refine r_iconst (v := (-1)) dX12_costs_43 rfl ?_
    obtain ⟨q25, hq25, h⟩ := b1_some h
    refine r_callVi (k := 0) (rest := []) (by omega) (mX12_mostOfAll hq25) sM_0 rfl rfl cb_X12_mostOfAll ml_X12_218 im_X12_mostOfAll se_X12_mostOfAll rfl rfl (Nat.le_of_ble_eq_true rfl) dX12_costs_44 ?_
    refine r_istore (i := 5) [(0, .ref (ad_ G 0)), (1, .int v1), (2, .int v2), (3, .int q22.1), (4, .int x23), (5, .int q25.1)] [1, 2, 3, 4, 5, 0] dX12_costs_47 (by decide) rfl ?_
    refine r_aload_n 0 dX12_costs_49 rfl rfl ?_
    refine r_getC (k := 0) (j := 2) (r := 1) sM_0 rfl fl_X12_16 dX12_costs_50 ?_
    refine r_bipush (v := 8) dX12_costs_53 rfl ?_
    refine r_iload_n 2 dX12_costs_55 rfl rfl ?_
    refine r_imul dX12_costs_56 ?_
    refine r_iload_n 1 dX12_costs_57 rfl rfl ?_
    refine r_iadd dX12_costs_58 ?_
    refine r_iload 4 dX12_costs_59 rfl ?_
    obtain ⟨S26, hS26, h⟩ := b1_some h
    refine r_zastore sM_1 hS26 dX12_costs_61 ?_
    refine r_iload_n 3 dX12_costs_62 rfl rfl ?_
    refine r_iload 5 dX12_costs_63 rfl ?_
    refine r_isub dX12_costs_65 ?_
    obtain rfl := Option.some.inj h
    exact r_ireturn rfl dX12_costs_66 (hp)
  · rw [if_pos c27] at h
    refine r_iconst (v := (-1)) dX12_costs_9 rfl ?_
    obtain rfl := Option.some.inj h
    exact r_ireturn rfl dX12_costs_10 (hp)
theorem mX12_costs {G : Gx} {S : St} {v1 : Int32} {v2 : Int32} {o : (Int32 × St)}  (h : fX12_costs S v1 v2 = some o) : MR_ G shM 5 yX12_costs cX12_costs 6 (some .int) [.ref (ad_ G 0), .int v1, .int v2] S (PI_ o.1 o.2) := MR_of cb_X12_costs (Nat.le_of_ble_eq_true rfl) [(0, .ref (ad_ G 0)), (1, .int v1), (2, .int v2)] rfl (tX12_costs  h ⟨rfl, rfl⟩)
set_option maxRecDepth 100000 in
set_option maxHeartbeats 4000000 in
theorem tX12_world {G : Gx} {post : Option Value → St → Prop} {S : St} {o : (Int32 × St)}  (h : fX12_world S = some o) (hp : post (some (.int o.1)) o.2) : Rn G shM 0 yX12_world cX12_world 2 (some .int) 0 [(0, .ref (ad_ G 0))] [] S post := by
  unfold fX12_world at h
  refine r_aload_n 0 dX12_world_0 rfl rfl ?_
  refine r_getI (k := 0) (j := 4) sM_0 rfl fl_X12_158 dX12_world_1 ?_
  refine r_iconst (v := 4) dX12_world_4 rfl ?_
  refine r_icmp_ne 11 dX12_world_5 (by decide) (fun c28 => ?_) (fun c28 => ?_)
  · rw [if_neg c28] at h
    refine r_iconst (v := 0) dX12_world_11 rfl ?_
    refine r_istore_n (i := 1) [(0, .ref (ad_ G 0)), (1, .int 0)] [1, 0] dX12_world_12 rfl (by decide) rfl ?_
    have key : ∀ ex, lp (fun w21 : Int32 × St => bX12_world_13  w21.1 w21.2) 5000 (0, S) = some ex → (fun u26 : St => Rn G shM 0 yX12_world cX12_world 2 (some .int) 40 [(0, .ref (ad_ G 0))] [] u26 post) ex → Rn G shM 0 yX12_world cX12_world 2 (some .int) 13 [(0, .ref (ad_ G 0)), (1, .int 0)] [] S post := by
      intro ex hl hx
      refine lp_rule (body := (fun w21 : Int32 × St => bX12_world_13  w21.1 w21.2)) (R := (fun w21 : Int32 × St => Rn G shM 0 yX12_world cX12_world 2 (some .int) 13 [(0, .ref (ad_ G 0)), (1, .int w21.1)] [] w21.2 post)) (X := (fun u26 : St => Rn G shM 0 yX12_world cX12_world 2 (some .int) 40 [(0, .ref (ad_ G 0))] [] u26 post)) ?_ 5000 (0, S) ex hl hx
      intro w21 oo h hB hX
      obtain ⟨v22, S23⟩ := w21
      replace h : bX12_world_13  v22 S23 = some oo := h
      unfold bX12_world_13 at h
      show Rn G shM 0 yX12_world cX12_world 2 (some .int) 13 [(0, .ref (ad_ G 0)), (1, .int v22)] [] S23 post
      refine r_iload_n 1 dX12_world_13 rfl rfl ?_
      refine r_bipush (v := 64) dX12_world_14 rfl ?_
      refine r_icmp_ge 40 dX12_world_16 (by decide) (fun c25 => ?_) (fun c25 => ?_)
      · rw [if_pos c25] at h
        refine r_sub [(0, .ref (ad_ G 0))] [0] rfl ?_
        obtain rfl := Option.some.inj h
        exact hX S23 rfl
      · rw [if_neg c25] at h
        refine r_aload_n 0 dX12_world_19 rfl rfl ?_
        refine r_getC (k := 0) (j := 5) (r := 3) sM_0 rfl fl_X12_24 dX12_world_20 ?_
        refine r_bipush (v := 64) dX12_world_23 rfl ?_
        refine r_aload_n 0 dX12_world_25 rfl rfl ?_
        refine r_getI (k := 0) (j := 4) sM_0 rfl fl_X12_158 dX12_world_26 ?_
        refine r_imul dX12_world_29 ?_
        refine r_iload_n 1 dX12_world_30 rfl rfl ?_
        refine r_iadd dX12_world_31 ?_
        refine r_iconst (v := 0) dX12_world_32 rfl ?_
        obtain ⟨S24, hS24, h⟩ := b1_some h
        refine r_zastore sM_3 hS24 dX12_world_33 ?_
        refine r_iinc (v := v22 + 1) [(0, .ref (ad_ G 0)), (1, .int (v22 + 1))] 1 [1, 0] dX12_world_34 rfl rfl (by decide) rfl ?_
        refine r_goto 13 dX12_world_37 (by decide) ?_
        obtain rfl := Option.some.inj h
        exact hB (v22 + 1, S24) rfl
    obtain ⟨u26, hu26, h⟩ := b1_some h
    refine key u26 hu26 ?_
    show Rn G shM 0 yX12_world cX12_world 2 (some .int) 40 [(0, .ref (ad_ G 0))] [] u26 post
    refine r_aload_n 0 dX12_world_40 rfl rfl ?_
    refine r_dup dX12_world_41 rfl ?_
    refine r_getI (k := 0) (j := 4) sM_0 rfl fl_X12_158 dX12_world_42 ?_
    refine r_iconst (v := 1) dX12_world_45 rfl ?_
    refine r_iadd dX12_world_46 ?_
    obtain ⟨S27, hS27, h⟩ := b1_some h
    refine r_setI (k := 0) (j := 4) sM_0 rfl pf_X12_158 hS27 dX12_world_47 ?_
    refine r_aload_n 0 dX12_world_50 rfl rfl ?_
    refine r_getI (k := 0) (j := 4) sM_0 rfl fl_X12_158 dX12_world_51 ?_
    refine r_iconst (v := 1) dX12_world_54 rfl ?_
    refine r_isub dX12_world_55 ?_
    obtain rfl := Option.some.inj h
    exact r_ireturn rfl dX12_world_56 (hp)
  · rw [if_pos c28] at h
    refine r_bipush (v := (-3)) dX12_world_8 rfl ?_
    obtain rfl := Option.some.inj h
    exact r_ireturn rfl dX12_world_10 (hp)
theorem mX12_world {G : Gx} {S : St} {o : (Int32 × St)}  (h : fX12_world S = some o) : MR_ G shM 0 yX12_world cX12_world 2 (some .int) [.ref (ad_ G 0)] S (PI_ o.1 o.2) := MR_of cb_X12_world (Nat.le_of_ble_eq_true rfl) [(0, .ref (ad_ G 0))] rfl (tX12_world  h ⟨rfl, rfl⟩)
set_option maxRecDepth 100000 in
set_option maxHeartbeats 4000000 in
theorem tX12_doubt {G : Gx} {post : Option Value → St → Prop} {S : St} {v1 : Int32} {v2 : Int32} {v3 : Int32} {v4 : Int32} {o : (Int32 × St)}  (h : fX12_doubt S v1 v2 v3 v4 = some o) (hp : post (some (.int o.1)) o.2) : Rn G shM 2 yX12_doubt cX12_doubt 7 (some .int) 0 [(0, .ref (ad_ G 0)), (1, .int v1), (2, .int v2), (3, .int v3), (4, .int v4)] [] S post := by
  unfold fX12_doubt at h
  refine r_iload_n 1 dX12_doubt_0 rfl rfl ?_
  refine r_i2l dX12_doubt_1 ?_
  refine r_lconst (v := 0) dX12_doubt_2 rfl ?_
  refine r_aload_n 0 dX12_doubt_3 rfl rfl ?_
  refine r_getI (k := 0) (j := 4) sM_0 rfl fl_X12_158 dX12_doubt_4 ?_
  refine r_iconst (v := 1) dX12_doubt_7 rfl ?_
  refine r_isub dX12_doubt_8 ?_
  refine r_i2l dX12_doubt_9 ?_
  obtain ⟨x21, hx21, h⟩ := b1_some h
  refine r_callSi (rest := []) (by omega) (mX12_in hx21) cb_X12_in ml_X12_145 sm_X12_in rfl rfl (Nat.le_of_ble_eq_true rfl) dX12_doubt_10 ?_
  refine r_if_eq 25 dX12_doubt_13 (by decide) (fun c28 => ?_) (fun c28 => ?_)
  · rw [if_pos c28] at h
    refine r_iconst (v := (-1)) dX12_doubt_25 rfl ?_
    obtain rfl := Option.some.inj h
    exact r_ireturn rfl dX12_doubt_26 (hp)
  · rw [if_neg c28] at h
    refine r_aload_n 0 dX12_doubt_16 rfl rfl ?_
    refine r_iload_n 2 dX12_doubt_17 rfl rfl ?_
    refine r_iload_n 3 dX12_doubt_18 rfl rfl ?_
    obtain ⟨x22, hx22, h⟩ := b1_some h
    refine r_callVi (k := 0) (rest := []) (by omega) (mX12_isSquare hx22) sM_0 rfl rfl cb_X12_isSquare ml_X12_149 im_X12_isSquare se_X12_isSquare rfl rfl (Nat.le_of_ble_eq_true rfl) dX12_doubt_19 ?_
    refine r_if_ne 27 dX12_doubt_22 (by decide) (fun c27 => ?_) (fun c27 => ?_)
    · rw [if_neg c27] at h
      refine r_bipush (v := 64) dX12_doubt_27 rfl ?_
      refine r_iload_n 1 dX12_doubt_29 rfl rfl ?_
      refine r_imul dX12_doubt_30 ?_
      refine r_bipush (v := 8) dX12_doubt_31 rfl ?_
      refine r_iload_n 3 dX12_doubt_33 rfl rfl ?_
      refine r_imul dX12_doubt_34 ?_
      refine r_iadd dX12_doubt_35 ?_
      refine r_iload_n 2 dX12_doubt_36 rfl rfl ?_
      refine r_iadd dX12_doubt_37 ?_
      refine r_istore (i := 5) [(0, .ref (ad_ G 0)), (1, .int v1), (2, .int v2), (3, .int v3), (4, .int v4), (5, .int (((64 * v1) + (8 * v3)) + v2))] [1, 2, 3, 4, 5, 0] dX12_doubt_38 (by decide) rfl ?_
      refine r_aload_n 0 dX12_doubt_40 rfl rfl ?_
      refine r_getC (k := 0) (j := 5) (r := 3) sM_0 rfl fl_X12_24 dX12_doubt_41 ?_
      refine r_iload 5 dX12_doubt_44 rfl ?_
      obtain ⟨x23, hx23, h⟩ := b1_some h
      refine r_zaload sM_3 hx23 dX12_doubt_46 ?_
      obtain ⟨w24, hw24, h⟩ := b1_some h
      have hJ : Rn G shM 2 yX12_doubt cX12_doubt 7 (some .int) 55 [(0, .ref (ad_ G 0)), (4, .int v4), (5, .int (((64 * v1) + (8 * v3)) + v2))] [.int w24] S post := by
        refine r_istore (i := 6) [(0, .ref (ad_ G 0)), (4, .int v4), (5, .int (((64 * v1) + (8 * v3)) + v2)), (6, .int w24)] [1, 2, 3, 0] dX12_doubt_55 (by decide) rfl ?_
        refine r_aload_n 0 dX12_doubt_57 rfl rfl ?_
        refine r_getC (k := 0) (j := 5) (r := 3) sM_0 rfl fl_X12_24 dX12_doubt_58 ?_
        refine r_iload 2 dX12_doubt_61 rfl ?_
        refine r_iload 1 dX12_doubt_63 rfl ?_
        obtain ⟨S25, hS25, h⟩ := b1_some h
        refine r_zastore sM_3 hS25 dX12_doubt_65 ?_
        refine r_iload 3 dX12_doubt_66 rfl ?_
        obtain rfl := Option.some.inj h
        exact r_ireturn rfl dX12_doubt_68 (hp)
      clear h
      replace h := hw24
      refine r_if_eq 54 dX12_doubt_47 (by decide) (fun c26 => ?_) (fun c26 => ?_)
      · rw [if_pos c26] at h
        refine r_iconst (v := 0) dX12_doubt_54 rfl ?_
        refine r_sub [(0, .ref (ad_ G 0)), (4, .int v4), (5, .int (((64 * v1) + (8 * v3)) + v2))] [0, 4, 5] rfl ?_
        obtain rfl := Option.some.inj h
        exact hJ
      · rw [if_neg c26] at h
        refine r_iconst (v := 1) dX12_doubt_50 rfl ?_
        refine r_goto 55 dX12_doubt_51 (by decide) ?_
        refine r_sub [(0, .ref (ad_ G 0)), (4, .int v4), (5, .int (((64 * v1) + (8 * v3)) + v2))] [0, 4, 5] rfl ?_
        obtain rfl := Option.some.inj h
        exact hJ
    · rw [if_pos c27] at h
      refine r_iconst (v := (-1)) dX12_doubt_25 rfl ?_
      obtain rfl := Option.some.inj h
      exact r_ireturn rfl dX12_doubt_26 (hp)
theorem mX12_doubt {G : Gx} {S : St} {v1 : Int32} {v2 : Int32} {v3 : Int32} {v4 : Int32} {o : (Int32 × St)}  (h : fX12_doubt S v1 v2 v3 v4 = some o) : MR_ G shM 2 yX12_doubt cX12_doubt 7 (some .int) [.ref (ad_ G 0), .int v1, .int v2, .int v3, .int v4] S (PI_ o.1 o.2) := MR_of cb_X12_doubt (Nat.le_of_ble_eq_true rfl) [(0, .ref (ad_ G 0)), (1, .int v1), (2, .int v2), (3, .int v3), (4, .int v4)] rfl (tX12_doubt  h ⟨rfl, rfl⟩)
set_option maxRecDepth 100000 in
set_option maxHeartbeats 4000000 in
theorem tX12_choose {G : Gx} {post : Option Value → St → Prop} {S : St} {v1 : Int32} {o : (Int32 × St)}  (h : fX12_choose S v1 = some o) (hp : post (some (.int o.1)) o.2) : Rn G shM 5 yX12_choose cX12_choose 7 (some .int) 0 [(0, .ref (ad_ G 0)), (1, .int v1)] [] S post := by
  unfold fX12_choose at h
  refine r_iload_n 1 dX12_choose_0 rfl rfl ?_
  refine r_i2l dX12_choose_1 ?_
  refine r_lconst (v := 0) dX12_choose_2 rfl ?_
  refine r_ldc2 kl_X12_222 dX12_choose_3 ?_
  obtain ⟨x21, hx21, h⟩ := b1_some h
  refine r_callSi (rest := []) (by omega) (mX12_in hx21) cb_X12_in ml_X12_145 sm_X12_in rfl rfl (Nat.le_of_ble_eq_true rfl) dX12_choose_6 ?_
  refine r_if_ne 14 dX12_choose_9 (by decide) (fun c43 => ?_) (fun c43 => ?_)
  · rw [if_neg c43] at h
    refine r_aload_n 0 dX12_choose_14 rfl rfl ?_
    refine r_getI (k := 0) (j := 4) sM_0 rfl fl_X12_158 dX12_choose_15 ?_
    refine r_if_ne 24 dX12_choose_18 (by decide) (fun c42 => ?_) (fun c42 => ?_)
    · rw [if_neg c42] at h
      refine r_iconst (v := 0) dX12_choose_24 rfl ?_
      refine r_istore_n (i := 2) [(0, .ref (ad_ G 0)), (1, .int v1), (2, .int 0)] [1, 2, 0] dX12_choose_25 rfl (by decide) rfl ?_
      refine r_bipush (v := (-4)) dX12_choose_26 rfl ?_
      refine r_istore_n (i := 3) [(0, .ref (ad_ G 0)), (1, .int v1), (2, .int 0), (3, .int (-4))] [1, 2, 3, 0] dX12_choose_28 rfl (by decide) rfl ?_
      refine r_iconst (v := 0) dX12_choose_29 rfl ?_
      refine r_istore (i := 4) [(0, .ref (ad_ G 0)), (1, .int v1), (2, .int 0), (3, .int (-4)), (4, .int 0)] [1, 2, 3, 4, 0] dX12_choose_30 (by decide) rfl ?_
      refine r_iconst (v := 0) dX12_choose_32 rfl ?_
      refine r_istore (i := 5) [(0, .ref (ad_ G 0)), (1, .int v1), (2, .int 0), (3, .int (-4)), (4, .int 0), (5, .int 0)] [1, 2, 3, 4, 5, 0] dX12_choose_33 (by decide) rfl ?_
      have key : ∀ ex, lp (fun w22 : Int32 × Int32 × Int32 × Int32 × St => bX12_choose_35  w22.1 w22.2.1 w22.2.2.1 w22.2.2.2.1 w22.2.2.2.2) 5000 (0, (-4), 0, 0, S) = some ex → (fun u34 : Int32 × Int32 × Int32 × St => Rn G shM 5 yX12_choose cX12_choose 7 (some .int) 98 [(0, .ref (ad_ G 0)), (1, .int v1), (2, .int u34.1), (3, .int u34.2.1), (4, .int u34.2.2.1)] [] u34.2.2.2 post) ex → Rn G shM 5 yX12_choose cX12_choose 7 (some .int) 35 [(0, .ref (ad_ G 0)), (1, .int v1), (2, .int 0), (3, .int (-4)), (4, .int 0), (5, .int 0)] [] S post := by
        intro ex hl hx
        refine lp_rule (body := (fun w22 : Int32 × Int32 × Int32 × Int32 × St => bX12_choose_35  w22.1 w22.2.1 w22.2.2.1 w22.2.2.2.1 w22.2.2.2.2)) (R := (fun w22 : Int32 × Int32 × Int32 × Int32 × St => Rn G shM 5 yX12_choose cX12_choose 7 (some .int) 35 [(0, .ref (ad_ G 0)), (1, .int v1), (2, .int w22.1), (3, .int w22.2.1), (4, .int w22.2.2.1), (5, .int w22.2.2.2.1)] [] w22.2.2.2.2 post)) (X := (fun u34 : Int32 × Int32 × Int32 × St => Rn G shM 5 yX12_choose cX12_choose 7 (some .int) 98 [(0, .ref (ad_ G 0)), (1, .int v1), (2, .int u34.1), (3, .int u34.2.1), (4, .int u34.2.2.1)] [] u34.2.2.2 post)) ?_ 5000 (0, (-4), 0, 0, S) ex hl hx
        intro w22 oo h hB hX
        obtain ⟨v23, v24, v25, v26, S27⟩ := w22
        replace h : bX12_choose_35  v23 v24 v25 v26 S27 = some oo := h
        unfold bX12_choose_35 at h
        show Rn G shM 5 yX12_choose cX12_choose 7 (some .int) 35 [(0, .ref (ad_ G 0)), (1, .int v1), (2, .int v23), (3, .int v24), (4, .int v25), (5, .int v26)] [] S27 post
        refine r_iload 5 dX12_choose_35 rfl ?_
        refine r_aload_n 0 dX12_choose_37 rfl rfl ?_
        refine r_getI (k := 0) (j := 4) sM_0 rfl fl_X12_158 dX12_choose_38 ?_
        refine r_icmp_ge 98 dX12_choose_41 (by decide) (fun c33 => ?_) (fun c33 => ?_)
        · rw [if_pos c33] at h
          refine r_sub [(0, .ref (ad_ G 0)), (1, .int v1), (2, .int v23), (3, .int v24), (4, .int v25)] [0, 1, 2, 3, 4] rfl ?_
          obtain rfl := Option.some.inj h
          exact hX (v23, v24, v25, S27) rfl
        · rw [if_neg c33] at h
          refine r_aload_n 0 dX12_choose_44 rfl rfl ?_
          refine r_iload 5 dX12_choose_45 rfl ?_
          obtain ⟨q28, hq28, h⟩ := b1_some h
          refine r_callVi (k := 0) (rest := []) (by omega) (mX12_mostOfAll hq28) sM_0 rfl rfl cb_X12_mostOfAll ml_X12_218 im_X12_mostOfAll se_X12_mostOfAll rfl rfl (Nat.le_of_ble_eq_true rfl) dX12_choose_47 ?_
          refine r_istore (i := 6) [(0, .ref (ad_ G 0)), (1, .int v1), (2, .int v23), (3, .int v24), (4, .int v25), (5, .int v26), (6, .int q28.1)] [1, 2, 3, 4, 5, 6, 0] dX12_choose_50 (by decide) rfl ?_
          refine r_iload_n 2 dX12_choose_52 rfl rfl ?_
          refine r_iload 6 dX12_choose_53 rfl ?_
          refine r_iadd dX12_choose_55 ?_
          refine r_istore_n (i := 2) [(0, .ref (ad_ G 0)), (1, .int v1), (2, .int (v23 + q28.1)), (3, .int v24), (4, .int v25), (5, .int v26), (6, .int q28.1)] [1, 2, 0, 3, 4, 5, 6] dX12_choose_56 rfl (by decide) rfl ?_
          refine r_iload_n 3 dX12_choose_57 rfl rfl ?_
          refine r_bipush (v := (-4)) dX12_choose_58 rfl ?_
          obtain ⟨w29, hw29, h⟩ := b1_some h
          have hJ : Rn G shM 5 yX12_choose cX12_choose 7 (some .int) 75 [(0, .ref (ad_ G 0)), (1, .int v1), (2, .int (v23 + q28.1)), (4, .int v25), (5, .int v26), (6, .int q28.1)] [.int w29] q28.2 post := by
            refine r_istore_n (i := 3) [(0, .ref (ad_ G 0)), (1, .int v1), (2, .int (v23 + q28.1)), (3, .int w29), (4, .int v25), (5, .int v26), (6, .int q28.1)] [1, 2, 3, 0, 4, 5, 6] dX12_choose_75 rfl (by decide) rfl ?_
            refine r_iload 6 dX12_choose_76 rfl ?_
            refine r_iload 4 dX12_choose_78 rfl ?_
            refine r_icmp_le 88 dX12_choose_80 (by decide) (fun c30 => ?_) (fun c30 => ?_)
            · rw [if_pos c30] at h
              refine r_iload 4 dX12_choose_88 rfl ?_
              refine r_istore (i := 4) [(0, .ref (ad_ G 0)), (1, .int v1), (2, .int (v23 + q28.1)), (3, .int w29), (4, .int v25), (5, .int v26), (6, .int q28.1)] [1, 2, 3, 4, 0, 5, 6] dX12_choose_90 (by decide) rfl ?_
              refine r_iinc (v := v26 + 1) [(0, .ref (ad_ G 0)), (1, .int v1), (2, .int (v23 + q28.1)), (3, .int w29), (4, .int v25), (5, .int (v26 + 1)), (6, .int q28.1)] 5 [1, 2, 3, 4, 5, 0, 6] dX12_choose_92 rfl rfl (by decide) rfl ?_
              refine r_goto 35 dX12_choose_95 (by decide) ?_
              refine r_sub [(0, .ref (ad_ G 0)), (1, .int v1), (2, .int (v23 + q28.1)), (3, .int w29), (4, .int v25), (5, .int (v26 + 1))] [0, 1, 2, 3, 4, 5] rfl ?_
              obtain rfl := Option.some.inj h
              exact hB (v23 + q28.1, w29, v25, v26 + 1, q28.2) rfl
            · rw [if_neg c30] at h
              refine r_iload 6 dX12_choose_83 rfl ?_
              refine r_goto 90 dX12_choose_85 (by decide) ?_
              refine r_istore (i := 4) [(0, .ref (ad_ G 0)), (1, .int v1), (2, .int (v23 + q28.1)), (3, .int w29), (4, .int q28.1), (5, .int v26), (6, .int q28.1)] [1, 2, 3, 4, 0, 5, 6] dX12_choose_90 (by decide) rfl ?_
              refine r_iinc (v := v26 + 1) [(0, .ref (ad_ G 0)), (1, .int v1), (2, .int (v23 + q28.1)), (3, .int w29), (4, .int q28.1), (5, .int (v26 + 1)), (6, .int q28.1)] 5 [1, 2, 3, 4, 5, 0, 6] dX12_choose_92 rfl rfl (by decide) rfl ?_
              refine r_goto 35 dX12_choose_95 (by decide) ?_
              refine r_sub [(0, .ref (ad_ G 0)), (1, .int v1), (2, .int (v23 + q28.1)), (3, .int w29), (4, .int q28.1), (5, .int (v26 + 1))] [0, 1, 2, 3, 4, 5] rfl ?_
              obtain rfl := Option.some.inj h
              exact hB (v23 + q28.1, w29, q28.1, v26 + 1, q28.2) rfl
          clear h
          replace h := hw29
          refine r_icmp_eq 69 dX12_choose_60 (by decide) (fun c32 => ?_) (fun c32 => ?_)
          · rw [if_pos c32] at h
            refine r_iload 6 dX12_choose_69 rfl ?_
            refine r_goto 75 dX12_choose_71 (by decide) ?_
            refine r_sub [(0, .ref (ad_ G 0)), (1, .int v1), (2, .int (v23 + q28.1)), (4, .int v25), (5, .int v26), (6, .int q28.1)] [0, 1, 2, 4, 5, 6] rfl ?_
            obtain rfl := Option.some.inj h
            exact hJ
          · rw [if_neg c32] at h
            refine r_iload 6 dX12_choose_63 rfl ?_
            refine r_iload_n 3 dX12_choose_65 rfl rfl ?_
            refine r_icmp_ge 74 dX12_choose_66 (by decide) (fun c31 => ?_) (fun c31 => ?_)
            · rw [if_pos c31] at h
              refine r_iload_n 3 dX12_choose_74 rfl rfl ?_
              refine r_sub [(0, .ref (ad_ G 0)), (1, .int v1), (2, .int (v23 + q28.1)), (4, .int v25), (5, .int v26), (6, .int q28.1)] [0, 1, 2, 4, 5, 6] rfl ?_
              obtain rfl := Option.some.inj h
              exact hJ
            · rw [if_neg c31] at h
              refine r_iload 6 dX12_choose_69 rfl ?_
              refine r_goto 75 dX12_choose_71 (by decide) ?_
              refine r_sub [(0, .ref (ad_ G 0)), (1, .int v1), (2, .int (v23 + q28.1)), (4, .int v25), (5, .int v26), (6, .int q28.1)] [0, 1, 2, 4, 5, 6] rfl ?_
              obtain rfl := Option.some.inj h
              exact hJ
      obtain ⟨u34, hu34, h⟩ := b1_some h
      refine key u34 hu34 ?_
      show Rn G shM 5 yX12_choose cX12_choose 7 (some .int) 98 [(0, .ref (ad_ G 0)), (1, .int v1), (2, .int u34.1), (3, .int u34.2.1), (4, .int u34.2.2.1)] [] u34.2.2.2 post
      refine r_aload_n 0 dX12_choose_98 rfl rfl ?_
      refine r_bipush (v := (-2)) dX12_choose_99 rfl ?_
      obtain ⟨q35, hq35, h⟩ := b1_some h
      refine r_callVi (k := 0) (rest := []) (by omega) (mX12_mostOfAll hq35) sM_0 rfl rfl cb_X12_mostOfAll ml_X12_218 im_X12_mostOfAll se_X12_mostOfAll rfl rfl (Nat.le_of_ble_eq_true rfl) dX12_choose_101 ?_
      refine r_istore (i := 5) [(0, .ref (ad_ G 0)), (1, .int v1), (2, .int u34.1), (3, .int u34.2.1), (4, .int u34.2.2.1), (5, .int q35.1)] [1, 2, 3, 4, 5, 0] dX12_choose_104 (by decide) rfl ?_
      refine r_iload_n 1 dX12_choose_106 rfl rfl ?_
      refine r_if_ne 114 dX12_choose_107 (by decide) (fun c41 => ?_) (fun c41 => ?_)
      · rw [if_neg c41] at h
        refine r_iload_n 1 dX12_choose_114 rfl rfl ?_
        refine r_iconst (v := 1) dX12_choose_115 rfl ?_
        refine r_icmp_ne 124 dX12_choose_116 (by decide) (fun c40 => ?_) (fun c40 => ?_)
        · rw [if_neg c40] at h
          refine r_iload_n 1 dX12_choose_124 rfl rfl ?_
          refine r_iconst (v := 2) dX12_choose_125 rfl ?_
          refine r_icmp_ne 136 dX12_choose_126 (by decide) (fun c39 => ?_) (fun c39 => ?_)
          · rw [if_neg c39] at h
            refine r_iload_n 1 dX12_choose_136 rfl rfl ?_
            refine r_iconst (v := 3) dX12_choose_137 rfl ?_
            refine r_icmp_ne 160 dX12_choose_138 (by decide) (fun c38 => ?_) (fun c38 => ?_)
            · rw [if_neg c38] at h
              refine r_iload_n 1 dX12_choose_160 rfl rfl ?_
              refine r_iconst (v := 4) dX12_choose_161 rfl ?_
              refine r_icmp_ne 169 dX12_choose_162 (by decide) (fun c36 => ?_) (fun c36 => ?_)
              · rw [if_neg c36] at h
                refine r_iload 4 dX12_choose_169 rfl ?_
                obtain rfl := Option.some.inj h
                exact r_ireturn rfl dX12_choose_171 (hp)
              · rw [if_pos c36] at h
                refine r_iload_n 3 dX12_choose_165 rfl rfl ?_
                refine r_goto 171 dX12_choose_166 (by decide) ?_
                obtain rfl := Option.some.inj h
                exact r_ireturn rfl dX12_choose_171 (hp)
            · rw [if_pos c38] at h
              refine r_aload_n 0 dX12_choose_141 rfl rfl ?_
              refine r_iconst (v := 0) dX12_choose_142 rfl ?_
              refine r_iconst (v := 0) dX12_choose_143 rfl ?_
              refine r_aload_n 0 dX12_choose_144 rfl rfl ?_
              refine r_getI (k := 0) (j := 0) sM_0 rfl fl_X12_7 dX12_choose_145 ?_
              refine r_aload_n 0 dX12_choose_148 rfl rfl ?_
              refine r_getI (k := 0) (j := 1) sM_0 rfl fl_X12_13 dX12_choose_149 ?_
              refine r_bipush (v := (-2)) dX12_choose_152 rfl ?_
              obtain ⟨x37, hx37, h⟩ := b1_some h
              refine r_callVi (k := 0) (rest := []) (by omega) (mX12_deed hx37) sM_0 rfl rfl cb_X12_deed ml_X12_212 im_X12_deed se_X12_deed rfl rfl (Nat.le_of_ble_eq_true rfl) dX12_choose_154 ?_
              refine r_goto 171 dX12_choose_157 (by decide) ?_
              obtain rfl := Option.some.inj h
              exact r_ireturn rfl dX12_choose_171 (hp)
          · rw [if_pos c39] at h
            refine r_iload_n 2 dX12_choose_129 rfl rfl ?_
            refine r_iload 5 dX12_choose_130 rfl ?_
            refine r_isub dX12_choose_132 ?_
            refine r_goto 171 dX12_choose_133 (by decide) ?_
            obtain rfl := Option.some.inj h
            exact r_ireturn rfl dX12_choose_171 (hp)
        · rw [if_pos c40] at h
          refine r_iload 5 dX12_choose_119 rfl ?_
          refine r_goto 171 dX12_choose_121 (by decide) ?_
          obtain rfl := Option.some.inj h
          exact r_ireturn rfl dX12_choose_171 (hp)
      · rw [if_pos c41] at h
        refine r_iload_n 2 dX12_choose_110 rfl rfl ?_
        refine r_goto 171 dX12_choose_111 (by decide) ?_
        obtain rfl := Option.some.inj h
        exact r_ireturn rfl dX12_choose_171 (hp)
    · rw [if_pos c42] at h
      refine r_bipush (v := (-2)) dX12_choose_21 rfl ?_
      obtain rfl := Option.some.inj h
      exact r_ireturn rfl dX12_choose_23 (hp)
  · rw [if_pos c43] at h
    refine r_iconst (v := (-1)) dX12_choose_12 rfl ?_
    obtain rfl := Option.some.inj h
    exact r_ireturn rfl dX12_choose_13 (hp)
theorem mX12_choose {G : Gx} {S : St} {v1 : Int32} {o : (Int32 × St)}  (h : fX12_choose S v1 = some o) : MR_ G shM 5 yX12_choose cX12_choose 7 (some .int) [.ref (ad_ G 0), .int v1] S (PI_ o.1 o.2) := MR_of cb_X12_choose (Nat.le_of_ble_eq_true rfl) [(0, .ref (ad_ G 0)), (1, .int v1)] rfl (tX12_choose  h ⟨rfl, rfl⟩)
