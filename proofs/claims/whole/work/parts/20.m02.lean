set_option maxRecDepth 100000 in
set_option maxHeartbeats 4000000 in
theorem tX12_store {G : Gx} {post : Option Value → St → Prop} {S : St} {v1 : Int32} {v2 : Int32} {v3 : Int32} {v4 : Int32} {o : (Int32 × St)}  (h : fX12_store S v1 v2 v3 v4 = some o) (hp : post (some (.int o.1)) o.2) : Rn G shM 1 yX12_store cX12_store 5 (some .int) 0 [(0, .ref (ad_ G 0)), (1, .int v1), (2, .int v2), (3, .int v3), (4, .int v4)] [] S post := by
  unfold fX12_store at h
  refine r_iload_n 1 dX12_store_0 rfl rfl ?_
  refine r_i2l dX12_store_1 ?_
  refine r_lconst (v := 1) dX12_store_2 rfl ?_
  refine r_ldc2 kl_X12_156 dX12_store_3 ?_
  obtain ⟨x21, hx21, h⟩ := b1_some h
  refine r_callSi (rest := []) (by omega) (mX12_in hx21) cb_X12_in ml_X12_145 sm_X12_in rfl rfl (Nat.le_of_ble_eq_true rfl) dX12_store_6 ?_
  refine r_if_eq 49 dX12_store_9 (by decide) (fun c34 => ?_) (fun c34 => ?_)
  · rw [if_pos c34] at h
    refine r_iconst (v := (-1)) dX12_store_49 rfl ?_
    obtain rfl := Option.some.inj h
    exact r_ireturn rfl dX12_store_50 (hp)
  · rw [if_neg c34] at h
    refine r_iload_n 2 dX12_store_12 rfl rfl ?_
    refine r_i2l dX12_store_13 ?_
    refine r_lconst (v := 1) dX12_store_14 rfl ?_
    refine r_ldc2 kl_X12_156 dX12_store_15 ?_
    obtain ⟨x22, hx22, h⟩ := b1_some h
    refine r_callSi (rest := []) (by omega) (mX12_in hx22) cb_X12_in ml_X12_145 sm_X12_in rfl rfl (Nat.le_of_ble_eq_true rfl) dX12_store_18 ?_
    refine r_if_eq 49 dX12_store_21 (by decide) (fun c33 => ?_) (fun c33 => ?_)
    · rw [if_pos c33] at h
      refine r_iconst (v := (-1)) dX12_store_49 rfl ?_
      obtain rfl := Option.some.inj h
      exact r_ireturn rfl dX12_store_50 (hp)
    · rw [if_neg c33] at h
      refine r_iload_n 3 dX12_store_24 rfl rfl ?_
      refine r_i2l dX12_store_25 ?_
      refine r_lconst (v := 0) dX12_store_26 rfl ?_
      refine r_ldc2 kl_X12_164 dX12_store_27 ?_
      obtain ⟨x23, hx23, h⟩ := b1_some h
      refine r_callSi (rest := []) (by omega) (mX12_in hx23) cb_X12_in ml_X12_145 sm_X12_in rfl rfl (Nat.le_of_ble_eq_true rfl) dX12_store_30 ?_
      refine r_if_eq 49 dX12_store_33 (by decide) (fun c32 => ?_) (fun c32 => ?_)
      · rw [if_pos c32] at h
        refine r_iconst (v := (-1)) dX12_store_49 rfl ?_
        obtain rfl := Option.some.inj h
        exact r_ireturn rfl dX12_store_50 (hp)
      · rw [if_neg c32] at h
        refine r_iload 4 dX12_store_36 rfl ?_
        refine r_i2l dX12_store_38 ?_
        refine r_lconst (v := 0) dX12_store_39 rfl ?_
        refine r_ldc2 kl_X12_224 dX12_store_40 ?_
        obtain ⟨x24, hx24, h⟩ := b1_some h
        refine r_callSi (rest := []) (by omega) (mX12_in hx24) cb_X12_in ml_X12_145 sm_X12_in rfl rfl (Nat.le_of_ble_eq_true rfl) dX12_store_43 ?_
        refine r_if_ne 51 dX12_store_46 (by decide) (fun c31 => ?_) (fun c31 => ?_)
        · rw [if_neg c31] at h
          refine r_aload_n 0 dX12_store_51 rfl rfl ?_
          refine r_getI (k := 0) (j := 17) sM_0 rfl fl_X12_226 dX12_store_52 ?_
          refine r_bipush (v := 12) dX12_store_55 rfl ?_
          refine r_icmp_ne 63 dX12_store_57 (by decide) (fun c30 => ?_) (fun c30 => ?_)
          · rw [if_neg c30] at h
            refine r_aload_n 0 dX12_store_63 rfl rfl ?_
            refine r_getC (k := 0) (j := 18) (r := 13) sM_0 rfl fl_X12_54 dX12_store_64 ?_
            refine r_aload_n 0 dX12_store_67 rfl rfl ?_
            refine r_getI (k := 0) (j := 17) sM_0 rfl fl_X12_226 dX12_store_68 ?_
            refine r_iload_n 1 dX12_store_71 rfl rfl ?_
            obtain ⟨S25, hS25, h⟩ := b1_some h
            refine r_iastore sM_13 hS25 dX12_store_72 ?_
            refine r_aload_n 0 dX12_store_73 rfl rfl ?_
            refine r_getC (k := 0) (j := 19) (r := 14) sM_0 rfl fl_X12_57 dX12_store_74 ?_
            refine r_aload_n 0 dX12_store_77 rfl rfl ?_
            refine r_getI (k := 0) (j := 17) sM_0 rfl fl_X12_226 dX12_store_78 ?_
            refine r_iload_n 2 dX12_store_81 rfl rfl ?_
            obtain ⟨S26, hS26, h⟩ := b1_some h
            refine r_iastore sM_14 hS26 dX12_store_82 ?_
            refine r_aload_n 0 dX12_store_83 rfl rfl ?_
            refine r_getC (k := 0) (j := 20) (r := 15) sM_0 rfl fl_X12_60 dX12_store_84 ?_
            refine r_aload_n 0 dX12_store_87 rfl rfl ?_
            refine r_getI (k := 0) (j := 17) sM_0 rfl fl_X12_226 dX12_store_88 ?_
            refine r_iload_n 3 dX12_store_91 rfl rfl ?_
            obtain ⟨S27, hS27, h⟩ := b1_some h
            refine r_iastore sM_15 hS27 dX12_store_92 ?_
            refine r_aload_n 0 dX12_store_93 rfl rfl ?_
            refine r_getC (k := 0) (j := 21) (r := 16) sM_0 rfl fl_X12_63 dX12_store_94 ?_
            refine r_aload_n 0 dX12_store_97 rfl rfl ?_
            refine r_getI (k := 0) (j := 17) sM_0 rfl fl_X12_226 dX12_store_98 ?_
            refine r_iload 4 dX12_store_101 rfl ?_
            obtain ⟨S28, hS28, h⟩ := b1_some h
            refine r_iastore sM_16 hS28 dX12_store_103 ?_
            refine r_aload_n 0 dX12_store_104 rfl rfl ?_
            refine r_dup dX12_store_105 rfl ?_
            refine r_getI (k := 0) (j := 17) sM_0 rfl fl_X12_226 dX12_store_106 ?_
            refine r_iconst (v := 1) dX12_store_109 rfl ?_
            refine r_iadd dX12_store_110 ?_
            obtain ⟨S29, hS29, h⟩ := b1_some h
            refine r_setI (k := 0) (j := 17) sM_0 rfl pf_X12_226 hS29 dX12_store_111 ?_
            refine r_aload_n 0 dX12_store_114 rfl rfl ?_
            refine r_getI (k := 0) (j := 17) sM_0 rfl fl_X12_226 dX12_store_115 ?_
            refine r_iconst (v := 1) dX12_store_118 rfl ?_
            refine r_isub dX12_store_119 ?_
            obtain rfl := Option.some.inj h
            exact r_ireturn rfl dX12_store_120 (hp)
          · rw [if_pos c30] at h
            refine r_bipush (v := (-3)) dX12_store_60 rfl ?_
            obtain rfl := Option.some.inj h
            exact r_ireturn rfl dX12_store_62 (hp)
        · rw [if_pos c31] at h
          refine r_iconst (v := (-1)) dX12_store_49 rfl ?_
          obtain rfl := Option.some.inj h
          exact r_ireturn rfl dX12_store_50 (hp)
theorem mX12_store {G : Gx} {S : St} {v1 : Int32} {v2 : Int32} {v3 : Int32} {v4 : Int32} {o : (Int32 × St)}  (h : fX12_store S v1 v2 v3 v4 = some o) : MR_ G shM 1 yX12_store cX12_store 5 (some .int) [.ref (ad_ G 0), .int v1, .int v2, .int v3, .int v4] S (PI_ o.1 o.2) := MR_of cb_X12_store (Nat.le_of_ble_eq_true rfl) [(0, .ref (ad_ G 0)), (1, .int v1), (2, .int v2), (3, .int v3), (4, .int v4)] rfl (tX12_store  h ⟨rfl, rfl⟩)
set_option maxRecDepth 100000 in
set_option maxHeartbeats 4000000 in
theorem tX12_doesFor {G : Gx} {post : Option Value → St → Prop} {S : St} {v1 : Int32} {v2 : Int32} {o : Int32}  (h : fX12_doesFor S v1 v2 = some o) (hp : post (some (.int o)) S) : Rn G shM 1 yX12_doesFor cX12_doesFor 4 (some .boolean) 0 [(0, .ref (ad_ G 0)), (1, .int v1), (2, .int v2)] [] S post := by
  unfold fX12_doesFor at h
  refine r_aload_n 0 dX12_doesFor_0 rfl rfl ?_
  refine r_getC (k := 0) (j := 23) (r := 17) sM_0 rfl fl_X12_66 dX12_doesFor_1 ?_
  refine r_iload_n 2 dX12_doesFor_4 rfl rfl ?_
  obtain ⟨x21, hx21, h⟩ := b1_some h
  refine r_iaload sM_17 hx21 dX12_doesFor_5 ?_
  refine r_istore_n (i := 3) [(0, .ref (ad_ G 0)), (1, .int v1), (2, .int v2), (3, .int x21)] [1, 2, 3, 0] dX12_doesFor_6 rfl (by decide) rfl ?_
  refine r_aload_n 0 dX12_doesFor_7 rfl rfl ?_
  refine r_iload_n 3 dX12_doesFor_8 rfl rfl ?_
  refine r_aload_n 0 dX12_doesFor_9 rfl rfl ?_
  refine r_getC (k := 0) (j := 18) (r := 13) sM_0 rfl fl_X12_54 dX12_doesFor_10 ?_
  refine r_iload_n 1 dX12_doesFor_13 rfl rfl ?_
  obtain ⟨x22, hx22, h⟩ := b1_some h
  refine r_iaload sM_13 hx22 dX12_doesFor_14 ?_
  refine r_aload_n 0 dX12_doesFor_15 rfl rfl ?_
  refine r_getC (k := 0) (j := 19) (r := 14) sM_0 rfl fl_X12_57 dX12_doesFor_16 ?_
  refine r_iload_n 1 dX12_doesFor_19 rfl rfl ?_
  obtain ⟨x23, hx23, h⟩ := b1_some h
  refine r_iaload sM_14 hx23 dX12_doesFor_20 ?_
  obtain ⟨x24, hx24, h⟩ := b1_some h
  refine r_callVi (k := 0) (rest := []) (by omega) (mX12_isOfSize hx24) sM_0 rfl rfl cb_X12_isOfSize ml_X12_174 im_X12_isOfSize se_X12_isOfSize rfl rfl (Nat.le_of_ble_eq_true rfl) dX12_doesFor_21 ?_
  refine r_if_eq 61 dX12_doesFor_24 (by decide) (fun c31 => ?_) (fun c31 => ?_)
  · rw [if_pos c31] at h
    refine r_iconst (v := 0) dX12_doesFor_61 rfl ?_
    obtain rfl := Option.some.inj h
    exact r_zreturn rfl (by decide) dX12_doesFor_62 (hp)
  · rw [if_neg c31] at h
    refine r_aload_n 0 dX12_doesFor_27 rfl rfl ?_
    refine r_getC (k := 0) (j := 20) (r := 15) sM_0 rfl fl_X12_60 dX12_doesFor_28 ?_
    refine r_iload_n 1 dX12_doesFor_31 rfl rfl ?_
    obtain ⟨x25, hx25, h⟩ := b1_some h
    refine r_iaload sM_15 hx25 dX12_doesFor_32 ?_
    refine r_aload_n 0 dX12_doesFor_33 rfl rfl ?_
    refine r_getC (k := 0) (j := 13) (r := 9) sM_0 rfl fl_X12_42 dX12_doesFor_34 ?_
    refine r_iload_n 3 dX12_doesFor_37 rfl rfl ?_
    obtain ⟨x26, hx26, h⟩ := b1_some h
    refine r_iaload sM_9 hx26 dX12_doesFor_38 ?_
    refine r_icmp_lt 61 dX12_doesFor_39 (by decide) (fun c30 => ?_) (fun c30 => ?_)
    · rw [if_pos c30] at h
      refine r_iconst (v := 0) dX12_doesFor_61 rfl ?_
      obtain rfl := Option.some.inj h
      exact r_zreturn rfl (by decide) dX12_doesFor_62 (hp)
    · rw [if_neg c30] at h
      refine r_aload_n 0 dX12_doesFor_42 rfl rfl ?_
      refine r_getC (k := 0) (j := 21) (r := 16) sM_0 rfl fl_X12_63 dX12_doesFor_43 ?_
      refine r_iload_n 1 dX12_doesFor_46 rfl rfl ?_
      obtain ⟨x27, hx27, h⟩ := b1_some h
      refine r_iaload sM_16 hx27 dX12_doesFor_47 ?_
      refine r_aload_n 0 dX12_doesFor_48 rfl rfl ?_
      refine r_getC (k := 0) (j := 24) (r := 18) sM_0 rfl fl_X12_69 dX12_doesFor_49 ?_
      refine r_iload_n 2 dX12_doesFor_52 rfl rfl ?_
      obtain ⟨x28, hx28, h⟩ := b1_some h
      refine r_iaload sM_18 hx28 dX12_doesFor_53 ?_
      refine r_icmp_lt 61 dX12_doesFor_54 (by decide) (fun c29 => ?_) (fun c29 => ?_)
      · rw [if_pos c29] at h
        refine r_iconst (v := 0) dX12_doesFor_61 rfl ?_
        obtain rfl := Option.some.inj h
        exact r_zreturn rfl (by decide) dX12_doesFor_62 (hp)
      · rw [if_neg c29] at h
        refine r_iconst (v := 1) dX12_doesFor_57 rfl ?_
        refine r_goto 62 dX12_doesFor_58 (by decide) ?_
        obtain rfl := Option.some.inj h
        exact r_zreturn rfl (by decide) dX12_doesFor_62 (hp)
theorem mX12_doesFor {G : Gx} {S : St} {v1 : Int32} {v2 : Int32} {o : Int32}  (h : fX12_doesFor S v1 v2 = some o) : MR_ G shM 1 yX12_doesFor cX12_doesFor 4 (some .boolean) [.ref (ad_ G 0), .int v1, .int v2] S (PI_ o S) := MR_of cb_X12_doesFor (Nat.le_of_ble_eq_true rfl) [(0, .ref (ad_ G 0)), (1, .int v1), (2, .int v2)] rfl (tX12_doesFor  h ⟨rfl, rfl⟩)
set_option maxRecDepth 100000 in
set_option maxHeartbeats 4000000 in
theorem tX12_stored {G : Gx} {post : Option Value → St → Prop} {S : St} {v1 : Int32} {v2 : Int32} {o : Int32}  (h : fX12_stored S v1 v2 = some o) (hp : post (some (.int o)) S) : Rn G shM 2 yX12_stored cX12_stored 5 (some .int) 0 [(0, .ref (ad_ G 0)), (1, .int v1), (2, .int v2)] [] S post := by
  unfold fX12_stored at h
  refine r_iload_n 1 dX12_stored_0 rfl rfl ?_
  refine r_i2l dX12_stored_1 ?_
  refine r_lconst (v := 0) dX12_stored_2 rfl ?_
  refine r_aload_n 0 dX12_stored_3 rfl rfl ?_
  refine r_getI (k := 0) (j := 17) sM_0 rfl fl_X12_226 dX12_stored_4 ?_
  refine r_iconst (v := 1) dX12_stored_7 rfl ?_
  refine r_isub dX12_stored_8 ?_
  refine r_i2l dX12_stored_9 ?_
  obtain ⟨x21, hx21, h⟩ := b1_some h
  refine r_callSi (rest := []) (by omega) (mX12_in hx21) cb_X12_in ml_X12_145 sm_X12_in rfl rfl (Nat.le_of_ble_eq_true rfl) dX12_stored_10 ?_
  refine r_if_eq 28 dX12_stored_13 (by decide) (fun c39 => ?_) (fun c39 => ?_)
  · rw [if_pos c39] at h
    refine r_iconst (v := (-1)) dX12_stored_28 rfl ?_
    obtain rfl := Option.some.inj h
    exact r_ireturn rfl dX12_stored_29 (hp)
  · rw [if_neg c39] at h
    refine r_iload_n 2 dX12_stored_16 rfl rfl ?_
    refine r_i2l dX12_stored_17 ?_
    refine r_lconst (v := 0) dX12_stored_18 rfl ?_
    refine r_ldc2 kl_X12_229 dX12_stored_19 ?_
    obtain ⟨x22, hx22, h⟩ := b1_some h
    refine r_callSi (rest := []) (by omega) (mX12_in hx22) cb_X12_in ml_X12_145 sm_X12_in rfl rfl (Nat.le_of_ble_eq_true rfl) dX12_stored_22 ?_
    refine r_if_ne 30 dX12_stored_25 (by decide) (fun c38 => ?_) (fun c38 => ?_)
    · rw [if_neg c38] at h
      refine r_iconst (v := 0) dX12_stored_30 rfl ?_
      refine r_istore_n (i := 3) [(0, .ref (ad_ G 0)), (1, .int v1), (2, .int v2), (3, .int 0)] [1, 2, 3, 0] dX12_stored_31 rfl (by decide) rfl ?_
      refine r_iconst (v := 0) dX12_stored_32 rfl ?_
      refine r_istore (i := 4) [(0, .ref (ad_ G 0)), (1, .int v1), (2, .int v2), (3, .int 0), (4, .int 0)] [1, 2, 3, 4, 0] dX12_stored_33 (by decide) rfl ?_
      have key : ∀ ex, lp (fun w23 : Int32 × Int32 => bX12_stored_35 S v1 w23.1 w23.2) 5000 (0, 0) = some ex → (fun u29 : Int32 => Rn G shM 2 yX12_stored cX12_stored 5 (some .int) 68 [(0, .ref (ad_ G 0)), (1, .int v1), (2, .int v2), (3, .int u29)] [] S post) ex → Rn G shM 2 yX12_stored cX12_stored 5 (some .int) 35 [(0, .ref (ad_ G 0)), (1, .int v1), (2, .int v2), (3, .int 0), (4, .int 0)] [] S post := by
        intro ex hl hx
        refine lp_rule (body := (fun w23 : Int32 × Int32 => bX12_stored_35 S v1 w23.1 w23.2)) (R := (fun w23 : Int32 × Int32 => Rn G shM 2 yX12_stored cX12_stored 5 (some .int) 35 [(0, .ref (ad_ G 0)), (1, .int v1), (2, .int v2), (3, .int w23.1), (4, .int w23.2)] [] S post)) (X := (fun u29 : Int32 => Rn G shM 2 yX12_stored cX12_stored 5 (some .int) 68 [(0, .ref (ad_ G 0)), (1, .int v1), (2, .int v2), (3, .int u29)] [] S post)) ?_ 5000 (0, 0) ex hl hx
        intro w23 oo h hB hX
        obtain ⟨v24, v25⟩ := w23
        replace h : bX12_stored_35 S v1 v24 v25 = some oo := h
        unfold bX12_stored_35 at h
        show Rn G shM 2 yX12_stored cX12_stored 5 (some .int) 35 [(0, .ref (ad_ G 0)), (1, .int v1), (2, .int v2), (3, .int v24), (4, .int v25)] [] S post
        refine r_iload 4 dX12_stored_35 rfl ?_
        refine r_aload_n 0 dX12_stored_37 rfl rfl ?_
        refine r_getI (k := 0) (j := 22) sM_0 rfl fl_X12_171 dX12_stored_38 ?_
        refine r_icmp_ge 68 dX12_stored_41 (by decide) (fun c28 => ?_) (fun c28 => ?_)
        · rw [if_pos c28] at h
          refine r_sub [(0, .ref (ad_ G 0)), (1, .int v1), (2, .int v2), (3, .int v24)] [0, 1, 2, 3] rfl ?_
          obtain rfl := Option.some.inj h
          exact hX v24 rfl
        · rw [if_neg c28] at h
          refine r_iload_n 3 dX12_stored_44 rfl rfl ?_
          refine r_aload_n 0 dX12_stored_45 rfl rfl ?_
          refine r_iload_n 1 dX12_stored_46 rfl rfl ?_
          refine r_iload 4 dX12_stored_47 rfl ?_
          obtain ⟨x26, hx26, h⟩ := b1_some h
          refine r_callVi (k := 0) (rest := [.int v24]) (by omega) (mX12_doesFor hx26) sM_0 rfl rfl cb_X12_doesFor ml_X12_231 im_X12_doesFor se_X12_doesFor rfl rfl (Nat.le_of_ble_eq_true rfl) dX12_stored_49 ?_
          refine r_if_eq 59 dX12_stored_52 (by decide) (fun c27 => ?_) (fun c27 => ?_)
          · rw [if_pos c27] at h
            refine r_iconst (v := 0) dX12_stored_59 rfl ?_
            refine r_iadd dX12_stored_60 ?_
            refine r_istore_n (i := 3) [(0, .ref (ad_ G 0)), (1, .int v1), (2, .int v2), (3, .int (v24 + 0)), (4, .int v25)] [1, 2, 3, 0, 4] dX12_stored_61 rfl (by decide) rfl ?_
            refine r_iinc (v := v25 + 1) [(0, .ref (ad_ G 0)), (1, .int v1), (2, .int v2), (3, .int (v24 + 0)), (4, .int (v25 + 1))] 4 [1, 2, 3, 4, 0] dX12_stored_62 rfl rfl (by decide) rfl ?_
            refine r_goto 35 dX12_stored_65 (by decide) ?_
            obtain rfl := Option.some.inj h
            exact hB (v24 + 0, v25 + 1) rfl
          · rw [if_neg c27] at h
            refine r_iconst (v := 1) dX12_stored_55 rfl ?_
            refine r_goto 60 dX12_stored_56 (by decide) ?_
            refine r_iadd dX12_stored_60 ?_
            refine r_istore_n (i := 3) [(0, .ref (ad_ G 0)), (1, .int v1), (2, .int v2), (3, .int (v24 + 1)), (4, .int v25)] [1, 2, 3, 0, 4] dX12_stored_61 rfl (by decide) rfl ?_
            refine r_iinc (v := v25 + 1) [(0, .ref (ad_ G 0)), (1, .int v1), (2, .int v2), (3, .int (v24 + 1)), (4, .int (v25 + 1))] 4 [1, 2, 3, 4, 0] dX12_stored_62 rfl rfl (by decide) rfl ?_
            refine r_goto 35 dX12_stored_65 (by decide) ?_
            obtain rfl := Option.some.inj h
            exact hB (v24 + 1, v25 + 1) rfl
      obtain ⟨u29, hu29, h⟩ := b1_some h
      refine key u29 hu29 ?_
      show Rn G shM 2 yX12_stored cX12_stored 5 (some .int) 68 [(0, .ref (ad_ G 0)), (1, .int v1), (2, .int v2), (3, .int u29)] [] S post
      refine r_iload_n 2 dX12_stored_68 rfl rfl ?_
      refine r_if_ne 81 dX12_stored_69 (by decide) (fun c37 => ?_) (fun c37 => ?_)
      · rw [if_neg c37] at h
        refine r_iload_n 2 dX12_stored_81 rfl rfl ?_
        refine r_iconst (v := 1) dX12_stored_82 rfl ?_
        refine r_icmp_ne 95 dX12_stored_83 (by decide) (fun c35 => ?_) (fun c35 => ?_)
        · rw [if_neg c35] at h
          refine r_iload_n 2 dX12_stored_95 rfl rfl ?_
          refine r_iconst (v := 2) dX12_stored_96 rfl ?_
          refine r_icmp_ne 109 dX12_stored_97 (by decide) (fun c33 => ?_) (fun c33 => ?_)
          · rw [if_neg c33] at h
            refine r_iload_n 2 dX12_stored_109 rfl rfl ?_
            refine r_iconst (v := 3) dX12_stored_110 rfl ?_
            refine r_icmp_ne 123 dX12_stored_111 (by decide) (fun c31 => ?_) (fun c31 => ?_)
            · rw [if_neg c31] at h
              refine r_iload_n 3 dX12_stored_123 rfl rfl ?_
              obtain rfl := Option.some.inj h
              exact r_ireturn rfl dX12_stored_124 (hp)
            · rw [if_pos c31] at h
              refine r_aload_n 0 dX12_stored_114 rfl rfl ?_
              refine r_getC (k := 0) (j := 21) (r := 16) sM_0 rfl fl_X12_63 dX12_stored_115 ?_
              refine r_iload_n 1 dX12_stored_118 rfl rfl ?_
              obtain ⟨x30, hx30, h⟩ := b1_some h
              refine r_iaload sM_16 hx30 dX12_stored_119 ?_
              refine r_goto 124 dX12_stored_120 (by decide) ?_
              obtain rfl := Option.some.inj h
              exact r_ireturn rfl dX12_stored_124 (hp)
          · rw [if_pos c33] at h
            refine r_aload_n 0 dX12_stored_100 rfl rfl ?_
            refine r_getC (k := 0) (j := 20) (r := 15) sM_0 rfl fl_X12_60 dX12_stored_101 ?_
            refine r_iload_n 1 dX12_stored_104 rfl rfl ?_
            obtain ⟨x32, hx32, h⟩ := b1_some h
            refine r_iaload sM_15 hx32 dX12_stored_105 ?_
            refine r_goto 124 dX12_stored_106 (by decide) ?_
            obtain rfl := Option.some.inj h
            exact r_ireturn rfl dX12_stored_124 (hp)
        · rw [if_pos c35] at h
          refine r_aload_n 0 dX12_stored_86 rfl rfl ?_
          refine r_getC (k := 0) (j := 19) (r := 14) sM_0 rfl fl_X12_57 dX12_stored_87 ?_
          refine r_iload_n 1 dX12_stored_90 rfl rfl ?_
          obtain ⟨x34, hx34, h⟩ := b1_some h
          refine r_iaload sM_14 hx34 dX12_stored_91 ?_
          refine r_goto 124 dX12_stored_92 (by decide) ?_
          obtain rfl := Option.some.inj h
          exact r_ireturn rfl dX12_stored_124 (hp)
      · rw [if_pos c37] at h
        refine r_aload_n 0 dX12_stored_72 rfl rfl ?_
        refine r_getC (k := 0) (j := 18) (r := 13) sM_0 rfl fl_X12_54 dX12_stored_73 ?_
        refine r_iload_n 1 dX12_stored_76 rfl rfl ?_
        obtain ⟨x36, hx36, h⟩ := b1_some h
        refine r_iaload sM_13 hx36 dX12_stored_77 ?_
        refine r_goto 124 dX12_stored_78 (by decide) ?_
        obtain rfl := Option.some.inj h
        exact r_ireturn rfl dX12_stored_124 (hp)
    · rw [if_pos c38] at h
      refine r_iconst (v := (-1)) dX12_stored_28 rfl ?_
      obtain rfl := Option.some.inj h
      exact r_ireturn rfl dX12_stored_29 (hp)
theorem mX12_stored {G : Gx} {S : St} {v1 : Int32} {v2 : Int32} {o : Int32}  (h : fX12_stored S v1 v2 = some o) : MR_ G shM 2 yX12_stored cX12_stored 5 (some .int) [.ref (ad_ G 0), .int v1, .int v2] S (PI_ o S) := MR_of cb_X12_stored (Nat.le_of_ble_eq_true rfl) [(0, .ref (ad_ G 0)), (1, .int v1), (2, .int v2)] rfl (tX12_stored  h ⟨rfl, rfl⟩)
set_option maxRecDepth 100000 in
set_option maxHeartbeats 4000000 in
theorem tX12_age {G : Gx} {post : Option Value → St → Prop} {S : St} {o : (Int32 × St)}  (h : fX12_age S = some o) (hp : post (some (.int o.1)) o.2) : Rn G shM 0 yX12_age cX12_age 2 (some .int) 0 [(0, .ref (ad_ G 0))] [] S post := by
  unfold fX12_age at h
  refine r_iconst (v := 0) dX12_age_0 rfl ?_
  refine r_istore_n (i := 1) [(0, .ref (ad_ G 0)), (1, .int 0)] [1, 0] dX12_age_1 rfl (by decide) rfl ?_
  have key : ∀ ex, lp (fun w21 : Int32 × St => bX12_age_2  w21.1 w21.2) 5000 (0, S) = some ex → (fun u30 : St => Rn G shM 0 yX12_age cX12_age 2 (some .int) 46 [(0, .ref (ad_ G 0))] [] u30 post) ex → Rn G shM 0 yX12_age cX12_age 2 (some .int) 2 [(0, .ref (ad_ G 0)), (1, .int 0)] [] S post := by
    intro ex hl hx
    refine lp_rule (body := (fun w21 : Int32 × St => bX12_age_2  w21.1 w21.2)) (R := (fun w21 : Int32 × St => Rn G shM 0 yX12_age cX12_age 2 (some .int) 2 [(0, .ref (ad_ G 0)), (1, .int w21.1)] [] w21.2 post)) (X := (fun u30 : St => Rn G shM 0 yX12_age cX12_age 2 (some .int) 46 [(0, .ref (ad_ G 0))] [] u30 post)) ?_ 5000 (0, S) ex hl hx
    intro w21 oo h hB hX
    obtain ⟨v22, S23⟩ := w21
    replace h : bX12_age_2  v22 S23 = some oo := h
    unfold bX12_age_2 at h
    show Rn G shM 0 yX12_age cX12_age 2 (some .int) 2 [(0, .ref (ad_ G 0)), (1, .int v22)] [] S23 post
    refine r_iload_n 1 dX12_age_2 rfl rfl ?_
    refine r_aload_n 0 dX12_age_3 rfl rfl ?_
    refine r_getI (k := 0) (j := 17) sM_0 rfl fl_X12_226 dX12_age_4 ?_
    refine r_icmp_ge 46 dX12_age_7 (by decide) (fun c29 => ?_) (fun c29 => ?_)
    · rw [if_pos c29] at h
      refine r_sub [(0, .ref (ad_ G 0))] [0] rfl ?_
      obtain rfl := Option.some.inj h
      exact hX S23 rfl
    · rw [if_neg c29] at h
      refine r_aload_n 0 dX12_age_10 rfl rfl ?_
      refine r_getC (k := 0) (j := 21) (r := 16) sM_0 rfl fl_X12_63 dX12_age_11 ?_
      refine r_iload_n 1 dX12_age_14 rfl rfl ?_
      refine r_aload_n 0 dX12_age_15 rfl rfl ?_
      refine r_getC (k := 0) (j := 21) (r := 16) sM_0 rfl fl_X12_63 dX12_age_16 ?_
      refine r_iload_n 1 dX12_age_19 rfl rfl ?_
      obtain ⟨x24, hx24, h⟩ := b1_some h
      refine r_iaload sM_16 hx24 dX12_age_20 ?_
      refine r_bipush (v := 99) dX12_age_21 rfl ?_
      refine r_icmp_ge 37 dX12_age_23 (by decide) (fun c28 => ?_) (fun c28 => ?_)
      · rw [if_pos c28] at h
        refine r_bipush (v := 99) dX12_age_37 rfl ?_
        obtain ⟨S25, hS25, h⟩ := b1_some h
        refine r_iastore sM_16 hS25 dX12_age_39 ?_
        refine r_iinc (v := v22 + 1) [(0, .ref (ad_ G 0)), (1, .int (v22 + 1))] 1 [1, 0] dX12_age_40 rfl rfl (by decide) rfl ?_
        refine r_goto 2 dX12_age_43 (by decide) ?_
        obtain rfl := Option.some.inj h
        exact hB (v22 + 1, S25) rfl
      · rw [if_neg c28] at h
        refine r_aload_n 0 dX12_age_26 rfl rfl ?_
        refine r_getC (k := 0) (j := 21) (r := 16) sM_0 rfl fl_X12_63 dX12_age_27 ?_
        refine r_iload_n 1 dX12_age_30 rfl rfl ?_
        obtain ⟨x26, hx26, h⟩ := b1_some h
        refine r_iaload sM_16 hx26 dX12_age_31 ?_
        refine r_iconst (v := 1) dX12_age_32 rfl ?_
        refine r_iadd dX12_age_33 ?_
        refine r_goto 39 dX12_age_34 (by decide) ?_
        obtain ⟨S27, hS27, h⟩ := b1_some h
        refine r_iastore sM_16 hS27 dX12_age_39 ?_
        refine r_iinc (v := v22 + 1) [(0, .ref (ad_ G 0)), (1, .int (v22 + 1))] 1 [1, 0] dX12_age_40 rfl rfl (by decide) rfl ?_
        refine r_goto 2 dX12_age_43 (by decide) ?_
        obtain rfl := Option.some.inj h
        exact hB (v22 + 1, S27) rfl
  obtain ⟨u30, hu30, h⟩ := b1_some h
  refine key u30 hu30 ?_
  show Rn G shM 0 yX12_age cX12_age 2 (some .int) 46 [(0, .ref (ad_ G 0))] [] u30 post
  refine r_aload_n 0 dX12_age_46 rfl rfl ?_
  refine r_getI (k := 0) (j := 17) sM_0 rfl fl_X12_226 dX12_age_47 ?_
  obtain rfl := Option.some.inj h
  exact r_ireturn rfl dX12_age_50 (hp)
theorem mX12_age {G : Gx} {S : St} {o : (Int32 × St)}  (h : fX12_age S = some o) : MR_ G shM 0 yX12_age cX12_age 2 (some .int) [.ref (ad_ G 0)] S (PI_ o.1 o.2) := MR_of cb_X12_age (Nat.le_of_ble_eq_true rfl) [(0, .ref (ad_ G 0))] rfl (tX12_age  h ⟨rfl, rfl⟩)
set_option maxRecDepth 100000 in
set_option maxHeartbeats 4000000 in
theorem tX12_order {G : Gx} {post : Option Value → St → Prop} {S : St} {v1 : Int32} {v2 : Int32} {v3 : Int32} {o : (Int32 × St)}  (h : fX12_order S v1 v2 v3 = some o) (hp : post (some (.int o.1)) o.2) : Rn G shM 2 yX12_order cX12_order 4 (some .int) 0 [(0, .ref (ad_ G 0)), (1, .int v1), (2, .int v2), (3, .int v3)] [] S post := by
  unfold fX12_order at h
  refine r_aload_n 0 dX12_order_0 rfl rfl ?_
  refine r_iload_n 1 dX12_order_1 rfl rfl ?_
  obtain ⟨x21, hx21, h⟩ := b1_some h
  refine r_callVi (k := 0) (rest := []) (by omega) (mX12_isShape hx21) sM_0 rfl rfl cb_X12_isShape ml_X12_190 im_X12_isShape se_X12_isShape rfl rfl (Nat.le_of_ble_eq_true rfl) dX12_order_2 ?_
  refine r_if_eq 32 dX12_order_5 (by decide) (fun c31 => ?_) (fun c31 => ?_)
  · rw [if_pos c31] at h
    refine r_iconst (v := (-1)) dX12_order_32 rfl ?_
    obtain rfl := Option.some.inj h
    exact r_ireturn rfl dX12_order_33 (hp)
  · rw [if_neg c31] at h
    refine r_iload_n 2 dX12_order_8 rfl rfl ?_
    refine r_i2l dX12_order_9 ?_
    refine r_lconst (v := 0) dX12_order_10 rfl ?_
    refine r_ldc2 kl_X12_224 dX12_order_11 ?_
    obtain ⟨x22, hx22, h⟩ := b1_some h
    refine r_callSi (rest := []) (by omega) (mX12_in hx22) cb_X12_in ml_X12_145 sm_X12_in rfl rfl (Nat.le_of_ble_eq_true rfl) dX12_order_14 ?_
    refine r_if_eq 32 dX12_order_17 (by decide) (fun c30 => ?_) (fun c30 => ?_)
    · rw [if_pos c30] at h
      refine r_iconst (v := (-1)) dX12_order_32 rfl ?_
      obtain rfl := Option.some.inj h
      exact r_ireturn rfl dX12_order_33 (hp)
    · rw [if_neg c30] at h
      refine r_iload_n 3 dX12_order_20 rfl rfl ?_
      refine r_i2l dX12_order_21 ?_
      refine r_lconst (v := 1) dX12_order_22 rfl ?_
      refine r_ldc2 kl_X12_234 dX12_order_23 ?_
      obtain ⟨x23, hx23, h⟩ := b1_some h
      refine r_callSi (rest := []) (by omega) (mX12_in hx23) cb_X12_in ml_X12_145 sm_X12_in rfl rfl (Nat.le_of_ble_eq_true rfl) dX12_order_26 ?_
      refine r_if_ne 34 dX12_order_29 (by decide) (fun c29 => ?_) (fun c29 => ?_)
      · rw [if_neg c29] at h
        refine r_aload_n 0 dX12_order_34 rfl rfl ?_
        refine r_getI (k := 0) (j := 22) sM_0 rfl fl_X12_171 dX12_order_35 ?_
        refine r_bipush (v := 8) dX12_order_38 rfl ?_
        refine r_icmp_ne 46 dX12_order_40 (by decide) (fun c28 => ?_) (fun c28 => ?_)
        · rw [if_neg c28] at h
          refine r_aload_n 0 dX12_order_46 rfl rfl ?_
          refine r_getC (k := 0) (j := 23) (r := 17) sM_0 rfl fl_X12_66 dX12_order_47 ?_
          refine r_aload_n 0 dX12_order_50 rfl rfl ?_
          refine r_getI (k := 0) (j := 22) sM_0 rfl fl_X12_171 dX12_order_51 ?_
          refine r_iload_n 1 dX12_order_54 rfl rfl ?_
          obtain ⟨S24, hS24, h⟩ := b1_some h
          refine r_iastore sM_17 hS24 dX12_order_55 ?_
          refine r_aload_n 0 dX12_order_56 rfl rfl ?_
          refine r_getC (k := 0) (j := 24) (r := 18) sM_0 rfl fl_X12_69 dX12_order_57 ?_
          refine r_aload_n 0 dX12_order_60 rfl rfl ?_
          refine r_getI (k := 0) (j := 22) sM_0 rfl fl_X12_171 dX12_order_61 ?_
          refine r_iload_n 2 dX12_order_64 rfl rfl ?_
          obtain ⟨S25, hS25, h⟩ := b1_some h
          refine r_iastore sM_18 hS25 dX12_order_65 ?_
          refine r_aload_n 0 dX12_order_66 rfl rfl ?_
          refine r_getC (k := 0) (j := 25) (r := 19) sM_0 rfl fl_X12_72 dX12_order_67 ?_
          refine r_aload_n 0 dX12_order_70 rfl rfl ?_
          refine r_getI (k := 0) (j := 22) sM_0 rfl fl_X12_171 dX12_order_71 ?_
          refine r_iload_n 3 dX12_order_74 rfl rfl ?_
          obtain ⟨S26, hS26, h⟩ := b1_some h
          refine r_iastore sM_19 hS26 dX12_order_75 ?_
          refine r_aload_n 0 dX12_order_76 rfl rfl ?_
          refine r_dup dX12_order_77 rfl ?_
          refine r_getI (k := 0) (j := 22) sM_0 rfl fl_X12_171 dX12_order_78 ?_
          refine r_iconst (v := 1) dX12_order_81 rfl ?_
          refine r_iadd dX12_order_82 ?_
          obtain ⟨S27, hS27, h⟩ := b1_some h
          refine r_setI (k := 0) (j := 22) sM_0 rfl pf_X12_171 hS27 dX12_order_83 ?_
          refine r_aload_n 0 dX12_order_86 rfl rfl ?_
          refine r_getI (k := 0) (j := 22) sM_0 rfl fl_X12_171 dX12_order_87 ?_
          refine r_iconst (v := 1) dX12_order_90 rfl ?_
          refine r_isub dX12_order_91 ?_
          obtain rfl := Option.some.inj h
          exact r_ireturn rfl dX12_order_92 (hp)
        · rw [if_pos c28] at h
          refine r_bipush (v := (-3)) dX12_order_43 rfl ?_
          obtain rfl := Option.some.inj h
          exact r_ireturn rfl dX12_order_45 (hp)
      · rw [if_pos c29] at h
        refine r_iconst (v := (-1)) dX12_order_32 rfl ?_
        obtain rfl := Option.some.inj h
        exact r_ireturn rfl dX12_order_33 (hp)
theorem mX12_order {G : Gx} {S : St} {v1 : Int32} {v2 : Int32} {v3 : Int32} {o : (Int32 × St)}  (h : fX12_order S v1 v2 v3 = some o) : MR_ G shM 2 yX12_order cX12_order 4 (some .int) [.ref (ad_ G 0), .int v1, .int v2, .int v3] S (PI_ o.1 o.2) := MR_of cb_X12_order (Nat.le_of_ble_eq_true rfl) [(0, .ref (ad_ G 0)), (1, .int v1), (2, .int v2), (3, .int v3)] rfl (tX12_order  h ⟨rfl, rfl⟩)
set_option maxRecDepth 100000 in
set_option maxHeartbeats 4000000 in
theorem tX12_findFilled {G : Gx} {post : Option Value → St → Prop} {S : St} {o : (Int32 × St)}  (h : fX12_findFilled S = some o) (hp : post (some (.int o.1)) o.2) : Rn G shM 2 yX12_findFilled cX12_findFilled 6 (some .int) 0 [(0, .ref (ad_ G 0))] [] S post := by
  unfold fX12_findFilled at h
  refine r_iconst (v := 0) dX12_findFilled_0 rfl ?_
  refine r_istore_n (i := 1) [(0, .ref (ad_ G 0)), (1, .int 0)] [1, 0] dX12_findFilled_1 rfl (by decide) rfl ?_
  have key : ∀ ex, lp (fun w21 : Int32 × St => bX12_findFilled_2  w21.1 w21.2) 5000 (0, S) = some ex → (fun u26 : St => Rn G shM 2 yX12_findFilled cX12_findFilled 6 (some .int) 31 [(0, .ref (ad_ G 0))] [] u26 post) ex → Rn G shM 2 yX12_findFilled cX12_findFilled 6 (some .int) 2 [(0, .ref (ad_ G 0)), (1, .int 0)] [] S post := by
    intro ex hl hx
    refine lp_rule (body := (fun w21 : Int32 × St => bX12_findFilled_2  w21.1 w21.2)) (R := (fun w21 : Int32 × St => Rn G shM 2 yX12_findFilled cX12_findFilled 6 (some .int) 2 [(0, .ref (ad_ G 0)), (1, .int w21.1)] [] w21.2 post)) (X := (fun u26 : St => Rn G shM 2 yX12_findFilled cX12_findFilled 6 (some .int) 31 [(0, .ref (ad_ G 0))] [] u26 post)) ?_ 5000 (0, S) ex hl hx
    intro w21 oo h hB hX
    obtain ⟨v22, S23⟩ := w21
    replace h : bX12_findFilled_2  v22 S23 = some oo := h
    unfold bX12_findFilled_2 at h
    show Rn G shM 2 yX12_findFilled cX12_findFilled 6 (some .int) 2 [(0, .ref (ad_ G 0)), (1, .int v22)] [] S23 post
    refine r_iload_n 1 dX12_findFilled_2 rfl rfl ?_
    refine r_sipush (v := 4096) dX12_findFilled_3 rfl ?_
    refine r_icmp_ge 31 dX12_findFilled_6 (by decide) (fun c25 => ?_) (fun c25 => ?_)
    · rw [if_pos c25] at h
      refine r_sub [(0, .ref (ad_ G 0))] [0] rfl ?_
      obtain rfl := Option.some.inj h
      exact hX S23 rfl
    · rw [if_neg c25] at h
      refine r_aload_n 0 dX12_findFilled_9 rfl rfl ?_
      refine r_getC (k := 0) (j := 26) (r := 20) sM_0 rfl fl_X12_76 dX12_findFilled_10 ?_
      refine r_sipush (v := 4096) dX12_findFilled_13 rfl ?_
      refine r_aload_n 0 dX12_findFilled_16 rfl rfl ?_
      refine r_getI (k := 0) (j := 22) sM_0 rfl fl_X12_171 dX12_findFilled_17 ?_
      refine r_imul dX12_findFilled_20 ?_
      refine r_iload_n 1 dX12_findFilled_21 rfl rfl ?_
      refine r_iadd dX12_findFilled_22 ?_
      refine r_iconst (v := 0) dX12_findFilled_23 rfl ?_
      obtain ⟨S24, hS24, h⟩ := b1_some h
      refine r_iastore sM_20 hS24 dX12_findFilled_24 ?_
      refine r_iinc (v := v22 + 1) [(0, .ref (ad_ G 0)), (1, .int (v22 + 1))] 1 [1, 0] dX12_findFilled_25 rfl rfl (by decide) rfl ?_
      refine r_goto 2 dX12_findFilled_28 (by decide) ?_
      obtain rfl := Option.some.inj h
      exact hB (v22 + 1, S24) rfl
  obtain ⟨u26, hu26, h⟩ := b1_some h
  refine key u26 hu26 ?_
  show Rn G shM 2 yX12_findFilled cX12_findFilled 6 (some .int) 31 [(0, .ref (ad_ G 0))] [] u26 post
  refine r_aload_n 0 dX12_findFilled_31 rfl rfl ?_
  refine r_getI (k := 0) (j := 22) sM_0 rfl fl_X12_171 dX12_findFilled_32 ?_
  refine r_iconst (v := 1) dX12_findFilled_35 rfl ?_
  refine r_isub dX12_findFilled_36 ?_
  refine r_istore_n (i := 1) [(0, .ref (ad_ G 0)), (1, .int ((gI_ u26 0 22) - 1))] [1, 0] dX12_findFilled_37 rfl (by decide) rfl ?_
  have key : ∀ ex, lp (fun w27 : Int32 × St => bX12_findFilled_38  w27.1 w27.2) 5000 ((gI_ u26 0 22) - 1, u26) = some ex → (fun u49 : St => Rn G shM 2 yX12_findFilled cX12_findFilled 6 (some .int) 172 [(0, .ref (ad_ G 0))] [] u49 post) ex → Rn G shM 2 yX12_findFilled cX12_findFilled 6 (some .int) 38 [(0, .ref (ad_ G 0)), (1, .int ((gI_ u26 0 22) - 1))] [] u26 post := by
    intro ex hl hx
    refine lp_rule (body := (fun w27 : Int32 × St => bX12_findFilled_38  w27.1 w27.2)) (R := (fun w27 : Int32 × St => Rn G shM 2 yX12_findFilled cX12_findFilled 6 (some .int) 38 [(0, .ref (ad_ G 0)), (1, .int w27.1)] [] w27.2 post)) (X := (fun u49 : St => Rn G shM 2 yX12_findFilled cX12_findFilled 6 (some .int) 172 [(0, .ref (ad_ G 0))] [] u49 post)) ?_ 5000 ((gI_ u26 0 22) - 1, u26) ex hl hx
    intro w27 oo h hB hX
    obtain ⟨v28, S29⟩ := w27
    replace h : bX12_findFilled_38  v28 S29 = some oo := h
    unfold bX12_findFilled_38 at h
    show Rn G shM 2 yX12_findFilled cX12_findFilled 6 (some .int) 38 [(0, .ref (ad_ G 0)), (1, .int v28)] [] S29 post
    refine r_iload_n 1 dX12_findFilled_38 rfl rfl ?_
    refine r_if_lt 172 dX12_findFilled_39 (by decide) (fun c48 => ?_) (fun c48 => ?_)
    · rw [if_pos c48] at h
      refine r_sub [(0, .ref (ad_ G 0))] [0] rfl ?_
      obtain rfl := Option.some.inj h
      exact hX S29 rfl
    · rw [if_neg c48] at h
      refine r_iconst (v := 0) dX12_findFilled_42 rfl ?_
      refine r_istore_n (i := 2) [(0, .ref (ad_ G 0)), (1, .int v28), (2, .int 0)] [1, 2, 0] dX12_findFilled_43 rfl (by decide) rfl ?_
      have key : ∀ ex, lp (fun w30 : Int32 × St => bX12_findFilled_44 v28 w30.1 w30.2) 5000 (0, S29) = some ex → (fun u47 : St => Rn G shM 2 yX12_findFilled cX12_findFilled 6 (some .int) 166 [(0, .ref (ad_ G 0)), (1, .int v28)] [] u47 post) ex → Rn G shM 2 yX12_findFilled cX12_findFilled 6 (some .int) 44 [(0, .ref (ad_ G 0)), (1, .int v28), (2, .int 0)] [] S29 post := by
        intro ex hl hx
        refine lp_rule (body := (fun w30 : Int32 × St => bX12_findFilled_44 v28 w30.1 w30.2)) (R := (fun w30 : Int32 × St => Rn G shM 2 yX12_findFilled cX12_findFilled 6 (some .int) 44 [(0, .ref (ad_ G 0)), (1, .int v28), (2, .int w30.1)] [] w30.2 post)) (X := (fun u47 : St => Rn G shM 2 yX12_findFilled cX12_findFilled 6 (some .int) 166 [(0, .ref (ad_ G 0)), (1, .int v28)] [] u47 post)) ?_ 5000 (0, S29) ex hl hx
        intro w30 oo h hB hX
        obtain ⟨v31, S32⟩ := w30
        replace h : bX12_findFilled_44 v28 v31 S32 = some oo := h
        unfold bX12_findFilled_44 at h
        show Rn G shM 2 yX12_findFilled cX12_findFilled 6 (some .int) 44 [(0, .ref (ad_ G 0)), (1, .int v28), (2, .int v31)] [] S32 post
        refine r_iload_n 2 dX12_findFilled_44 rfl rfl ?_
        refine r_iconst (v := 1) dX12_findFilled_45 rfl ?_
        refine r_aload_n 0 dX12_findFilled_46 rfl rfl ?_
        refine r_getI (k := 0) (j := 17) sM_0 rfl fl_X12_226 dX12_findFilled_47 ?_
        refine r_ishl dX12_findFilled_50 ?_
        refine r_icmp_ge 166 dX12_findFilled_51 (by decide) (fun c46 => ?_) (fun c46 => ?_)
        · rw [if_pos c46] at h
          refine r_sub [(0, .ref (ad_ G 0)), (1, .int v28)] [0, 1] rfl ?_
          obtain rfl := Option.some.inj h
          exact hX S32 rfl
        · rw [if_neg c46] at h
          refine r_aload_n 0 dX12_findFilled_54 rfl rfl ?_
          refine r_getC (k := 0) (j := 26) (r := 20) sM_0 rfl fl_X12_76 dX12_findFilled_55 ?_
          refine r_sipush (v := 4096) dX12_findFilled_58 rfl ?_
          refine r_iload_n 1 dX12_findFilled_61 rfl rfl ?_
          refine r_iconst (v := 1) dX12_findFilled_62 rfl ?_
          refine r_iadd dX12_findFilled_63 ?_
          refine r_imul dX12_findFilled_64 ?_
          refine r_iload_n 2 dX12_findFilled_65 rfl rfl ?_
          refine r_iadd dX12_findFilled_66 ?_
          obtain ⟨x33, hx33, h⟩ := b1_some h
          refine r_iaload sM_20 hx33 dX12_findFilled_67 ?_
          refine r_istore_n (i := 3) [(0, .ref (ad_ G 0)), (1, .int v28), (2, .int v31), (3, .int x33)] [1, 2, 3, 0] dX12_findFilled_68 rfl (by decide) rfl ?_
          refine r_iconst (v := 0) dX12_findFilled_69 rfl ?_
          refine r_istore (i := 4) [(0, .ref (ad_ G 0)), (1, .int v28), (2, .int v31), (3, .int x33), (4, .int 0)] [1, 2, 3, 4, 0] dX12_findFilled_70 (by decide) rfl ?_
          have key : ∀ ex, lp (fun w34 : Int32 × Int32 => bX12_findFilled_72 v28 v31 S32 w34.1 w34.2) 5000 (x33, 0) = some ex → (fun u44 : Int32 => Rn G shM 2 yX12_findFilled cX12_findFilled 6 (some .int) 147 [(0, .ref (ad_ G 0)), (1, .int v28), (2, .int v31), (3, .int u44)] [] S32 post) ex → Rn G shM 2 yX12_findFilled cX12_findFilled 6 (some .int) 72 [(0, .ref (ad_ G 0)), (1, .int v28), (2, .int v31), (3, .int x33), (4, .int 0)] [] S32 post := by
            intro ex hl hx
            refine lp_rule (body := (fun w34 : Int32 × Int32 => bX12_findFilled_72 v28 v31 S32 w34.1 w34.2)) (R := (fun w34 : Int32 × Int32 => Rn G shM 2 yX12_findFilled cX12_findFilled 6 (some .int) 72 [(0, .ref (ad_ G 0)), (1, .int v28), (2, .int v31), (3, .int w34.1), (4, .int w34.2)] [] S32 post)) (X := (fun u44 : Int32 => Rn G shM 2 yX12_findFilled cX12_findFilled 6 (some .int) 147 [(0, .ref (ad_ G 0)), (1, .int v28), (2, .int v31), (3, .int u44)] [] S32 post)) ?_ 5000 (x33, 0) ex hl hx
            intro w34 oo h hB hX
            obtain ⟨v35, v36⟩ := w34
            replace h : bX12_findFilled_72 v28 v31 S32 v35 v36 = some oo := h
            unfold bX12_findFilled_72 at h
            show Rn G shM 2 yX12_findFilled cX12_findFilled 6 (some .int) 72 [(0, .ref (ad_ G 0)), (1, .int v28), (2, .int v31), (3, .int v35), (4, .int v36)] [] S32 post
            refine r_iload 4 dX12_findFilled_72 rfl ?_
            refine r_aload_n 0 dX12_findFilled_74 rfl rfl ?_
            refine r_getI (k := 0) (j := 17) sM_0 rfl fl_X12_226 dX12_findFilled_75 ?_
            refine r_icmp_ge 147 dX12_findFilled_78 (by decide) (fun c43 => ?_) (fun c43 => ?_)
            · rw [if_pos c43] at h
              refine r_sub [(0, .ref (ad_ G 0)), (1, .int v28), (2, .int v31), (3, .int v35)] [0, 1, 2, 3] rfl ?_
              obtain rfl := Option.some.inj h
              exact hX v35 rfl
            · rw [if_neg c43] at h
              refine r_iload_n 2 dX12_findFilled_81 rfl rfl ?_
              refine r_iload 4 dX12_findFilled_82 rfl ?_
              refine r_ishr dX12_findFilled_84 ?_
              refine r_iconst (v := 1) dX12_findFilled_85 rfl ?_
              refine r_iand dX12_findFilled_86 ?_
              refine r_if_ne 141 dX12_findFilled_87 (by decide) (fun c42 => ?_) (fun c42 => ?_)
              · rw [if_neg c42] at h
                refine r_iinc (v := v36 + 1) [(0, .ref (ad_ G 0)), (1, .int v28), (2, .int v31), (3, .int v35), (4, .int (v36 + 1))] 4 [1, 2, 3, 4, 0] dX12_findFilled_141 rfl rfl (by decide) rfl ?_
                refine r_goto 72 dX12_findFilled_144 (by decide) ?_
                obtain rfl := Option.some.inj h
                exact hB (v35, v36 + 1) rfl
              · rw [if_pos c42] at h
                refine r_aload_n 0 dX12_findFilled_90 rfl rfl ?_
                refine r_iload 4 dX12_findFilled_91 rfl ?_
                refine r_iload_n 1 dX12_findFilled_93 rfl rfl ?_
                obtain ⟨x37, hx37, h⟩ := b1_some h
                refine r_callVi (k := 0) (rest := []) (by omega) (mX12_doesFor hx37) sM_0 rfl rfl cb_X12_doesFor ml_X12_231 im_X12_doesFor se_X12_doesFor rfl rfl (Nat.le_of_ble_eq_true rfl) dX12_findFilled_94 ?_
                refine r_if_eq 141 dX12_findFilled_97 (by decide) (fun c41 => ?_) (fun c41 => ?_)
                · rw [if_pos c41] at h
                  refine r_iinc (v := v36 + 1) [(0, .ref (ad_ G 0)), (1, .int v28), (2, .int v31), (3, .int v35), (4, .int (v36 + 1))] 4 [1, 2, 3, 4, 0] dX12_findFilled_141 rfl rfl (by decide) rfl ?_
                  refine r_goto 72 dX12_findFilled_144 (by decide) ?_
                  obtain rfl := Option.some.inj h
                  exact hB (v35, v36 + 1) rfl
                · rw [if_neg c41] at h
                  refine r_aload_n 0 dX12_findFilled_100 rfl rfl ?_
                  refine r_getC (k := 0) (j := 25) (r := 19) sM_0 rfl fl_X12_72 dX12_findFilled_101 ?_
                  refine r_iload_n 1 dX12_findFilled_104 rfl rfl ?_
                  obtain ⟨x38, hx38, h⟩ := b1_some h
                  refine r_iaload sM_19 hx38 dX12_findFilled_105 ?_
                  refine r_aload_n 0 dX12_findFilled_106 rfl rfl ?_
                  refine r_getC (k := 0) (j := 26) (r := 20) sM_0 rfl fl_X12_76 dX12_findFilled_107 ?_
                  refine r_sipush (v := 4096) dX12_findFilled_110 rfl ?_
                  refine r_iload_n 1 dX12_findFilled_113 rfl rfl ?_
                  refine r_iconst (v := 1) dX12_findFilled_114 rfl ?_
                  refine r_iadd dX12_findFilled_115 ?_
                  refine r_imul dX12_findFilled_116 ?_
                  refine r_iload_n 2 dX12_findFilled_117 rfl rfl ?_
                  refine r_iconst (v := 1) dX12_findFilled_118 rfl ?_
                  refine r_iload 4 dX12_findFilled_119 rfl ?_
                  refine r_ishl dX12_findFilled_121 ?_
                  refine r_ior dX12_findFilled_122 ?_
                  refine r_iadd dX12_findFilled_123 ?_
                  obtain ⟨x39, hx39, h⟩ := b1_some h
                  refine r_iaload sM_20 hx39 dX12_findFilled_124 ?_
                  refine r_iadd dX12_findFilled_125 ?_
                  refine r_istore (i := 5) [(0, .ref (ad_ G 0)), (1, .int v28), (2, .int v31), (3, .int v35), (4, .int v36), (5, .int (x38 + x39))] [1, 2, 3, 4, 5, 0] dX12_findFilled_126 (by decide) rfl ?_
                  refine r_iload 5 dX12_findFilled_128 rfl ?_
                  refine r_iload_n 3 dX12_findFilled_130 rfl rfl ?_
                  refine r_icmp_le 139 dX12_findFilled_131 (by decide) (fun c40 => ?_) (fun c40 => ?_)
                  · rw [if_pos c40] at h
                    refine r_iload_n 3 dX12_findFilled_139 rfl rfl ?_
                    refine r_istore_n (i := 3) [(0, .ref (ad_ G 0)), (1, .int v28), (2, .int v31), (3, .int v35), (4, .int v36), (5, .int (x38 + x39))] [1, 2, 3, 0, 4, 5] dX12_findFilled_140 rfl (by decide) rfl ?_
                    refine r_iinc (v := v36 + 1) [(0, .ref (ad_ G 0)), (1, .int v28), (2, .int v31), (3, .int v35), (4, .int (v36 + 1)), (5, .int (x38 + x39))] 4 [1, 2, 3, 4, 0, 5] dX12_findFilled_141 rfl rfl (by decide) rfl ?_
                    refine r_goto 72 dX12_findFilled_144 (by decide) ?_
                    refine r_sub [(0, .ref (ad_ G 0)), (1, .int v28), (2, .int v31), (3, .int v35), (4, .int (v36 + 1))] [0, 1, 2, 3, 4] rfl ?_
                    obtain rfl := Option.some.inj h
                    exact hB (v35, v36 + 1) rfl
                  · rw [if_neg c40] at h
                    refine r_iload 5 dX12_findFilled_134 rfl ?_
                    refine r_goto 140 dX12_findFilled_136 (by decide) ?_
                    refine r_istore_n (i := 3) [(0, .ref (ad_ G 0)), (1, .int v28), (2, .int v31), (3, .int (x38 + x39)), (4, .int v36), (5, .int (x38 + x39))] [1, 2, 3, 0, 4, 5] dX12_findFilled_140 rfl (by decide) rfl ?_
                    refine r_iinc (v := v36 + 1) [(0, .ref (ad_ G 0)), (1, .int v28), (2, .int v31), (3, .int (x38 + x39)), (4, .int (v36 + 1)), (5, .int (x38 + x39))] 4 [1, 2, 3, 4, 0, 5] dX12_findFilled_141 rfl rfl (by decide) rfl ?_
                    refine r_goto 72 dX12_findFilled_144 (by decide) ?_
                    refine r_sub [(0, .ref (ad_ G 0)), (1, .int v28), (2, .int v31), (3, .int (x38 + x39)), (4, .int (v36 + 1))] [0, 1, 2, 3, 4] rfl ?_
                    obtain rfl := Option.some.inj h
                    exact hB (x38 + x39, v36 + 1) rfl
          obtain ⟨u44, hu44, h⟩ := b1_some h
          refine key u44 hu44 ?_
          show Rn G shM 2 yX12_findFilled cX12_findFilled 6 (some .int) 147 [(0, .ref (ad_ G 0)), (1, .int v28), (2, .int v31), (3, .int u44)] [] S32 post
          refine r_aload_n 0 dX12_findFilled_147 rfl rfl ?_
          refine r_getC (k := 0) (j := 26) (r := 20) sM_0 rfl fl_X12_76 dX12_findFilled_148 ?_
          refine r_sipush (v := 4096) dX12_findFilled_151 rfl ?_
          refine r_iload_n 1 dX12_findFilled_154 rfl rfl ?_
          refine r_imul dX12_findFilled_155 ?_
          refine r_iload_n 2 dX12_findFilled_156 rfl rfl ?_
          refine r_iadd dX12_findFilled_157 ?_
          refine r_iload_n 3 dX12_findFilled_158 rfl rfl ?_
          obtain ⟨S45, hS45, h⟩ := b1_some h
          refine r_iastore sM_20 hS45 dX12_findFilled_159 ?_
          refine r_iinc (v := v31 + 1) [(0, .ref (ad_ G 0)), (1, .int v28), (2, .int (v31 + 1)), (3, .int u44)] 2 [1, 2, 0, 3] dX12_findFilled_160 rfl rfl (by decide) rfl ?_
          refine r_goto 44 dX12_findFilled_163 (by decide) ?_
          refine r_sub [(0, .ref (ad_ G 0)), (1, .int v28), (2, .int (v31 + 1))] [0, 1, 2] rfl ?_
          obtain rfl := Option.some.inj h
          exact hB (v31 + 1, S45) rfl
      obtain ⟨u47, hu47, h⟩ := b1_some h
      refine key u47 hu47 ?_
      show Rn G shM 2 yX12_findFilled cX12_findFilled 6 (some .int) 166 [(0, .ref (ad_ G 0)), (1, .int v28)] [] u47 post
      refine r_iinc (v := v28 + (-1)) [(0, .ref (ad_ G 0)), (1, .int (v28 + (-1)))] 1 [1, 0] dX12_findFilled_166 rfl rfl (by decide) rfl ?_
      refine r_goto 38 dX12_findFilled_169 (by decide) ?_
      obtain rfl := Option.some.inj h
      exact hB (v28 + (-1), u47) rfl
  obtain ⟨u49, hu49, h⟩ := b1_some h
  refine key u49 hu49 ?_
  show Rn G shM 2 yX12_findFilled cX12_findFilled 6 (some .int) 172 [(0, .ref (ad_ G 0))] [] u49 post
  refine r_iconst (v := 0) dX12_findFilled_172 rfl ?_
  refine r_istore_n (i := 1) [(0, .ref (ad_ G 0)), (1, .int 0)] [1, 0] dX12_findFilled_173 rfl (by decide) rfl ?_
  refine r_iconst (v := 0) dX12_findFilled_174 rfl ?_
  refine r_istore_n (i := 2) [(0, .ref (ad_ G 0)), (1, .int 0), (2, .int 0)] [1, 2, 0] dX12_findFilled_175 rfl (by decide) rfl ?_
  have key : ∀ ex, lp (fun w50 : Int32 × Int32 × St => bX12_findFilled_176  w50.1 w50.2.1 w50.2.2) 5000 (0, 0, u49) = some ex → (fun u73 : St => Rn G shM 2 yX12_findFilled cX12_findFilled 6 (some .int) 305 [(0, .ref (ad_ G 0))] [] u73 post) ex → Rn G shM 2 yX12_findFilled cX12_findFilled 6 (some .int) 176 [(0, .ref (ad_ G 0)), (1, .int 0), (2, .int 0)] [] u49 post := by
    intro ex hl hx
    refine lp_rule (body := (fun w50 : Int32 × Int32 × St => bX12_findFilled_176  w50.1 w50.2.1 w50.2.2)) (R := (fun w50 : Int32 × Int32 × St => Rn G shM 2 yX12_findFilled cX12_findFilled 6 (some .int) 176 [(0, .ref (ad_ G 0)), (1, .int w50.1), (2, .int w50.2.1)] [] w50.2.2 post)) (X := (fun u73 : St => Rn G shM 2 yX12_findFilled cX12_findFilled 6 (some .int) 305 [(0, .ref (ad_ G 0))] [] u73 post)) ?_ 5000 (0, 0, u49) ex hl hx
    intro w50 oo h hB hX
    obtain ⟨v51, v52, S53⟩ := w50
    replace h : bX12_findFilled_176  v51 v52 S53 = some oo := h
    unfold bX12_findFilled_176 at h
    show Rn G shM 2 yX12_findFilled cX12_findFilled 6 (some .int) 176 [(0, .ref (ad_ G 0)), (1, .int v51), (2, .int v52)] [] S53 post
    refine r_iload_n 2 dX12_findFilled_176 rfl rfl ?_
    refine r_aload_n 0 dX12_findFilled_177 rfl rfl ?_
    refine r_getI (k := 0) (j := 22) sM_0 rfl fl_X12_171 dX12_findFilled_178 ?_
    refine r_icmp_ge 305 dX12_findFilled_181 (by decide) (fun c72 => ?_) (fun c72 => ?_)
    · rw [if_pos c72] at h
      refine r_sub [(0, .ref (ad_ G 0))] [0] rfl ?_
      obtain rfl := Option.some.inj h
      exact hX S53 rfl
    · rw [if_neg c72] at h
      refine r_aload_n 0 dX12_findFilled_184 rfl rfl ?_
      refine r_getC (k := 0) (j := 27) (r := 21) sM_0 rfl fl_X12_79 dX12_findFilled_185 ?_
      refine r_iload_n 2 dX12_findFilled_188 rfl rfl ?_
      refine r_bipush (v := (-4)) dX12_findFilled_189 rfl ?_
      obtain ⟨S54, hS54, h⟩ := b1_some h
      refine r_iastore sM_21 hS54 dX12_findFilled_191 ?_
      refine r_aload_n 0 dX12_findFilled_192 rfl rfl ?_
      refine r_getI (k := 0) (j := 17) sM_0 rfl fl_X12_226 dX12_findFilled_193 ?_
      refine r_iconst (v := 1) dX12_findFilled_196 rfl ?_
      refine r_isub dX12_findFilled_197 ?_
      refine r_istore_n (i := 3) [(0, .ref (ad_ G 0)), (1, .int v51), (2, .int v52), (3, .int ((gI_ S54 0 17) - 1))] [1, 2, 3, 0] dX12_findFilled_198 rfl (by decide) rfl ?_
      have key : ∀ ex, lp (fun w55 : Int32 × St => bX12_findFilled_199 v51 v52 w55.1 w55.2) 5000 ((gI_ S54 0 17) - 1, S54) = some ex → (fun u67 : St => Rn G shM 2 yX12_findFilled cX12_findFilled 6 (some .int) 273 [(0, .ref (ad_ G 0)), (1, .int v51), (2, .int v52)] [] u67 post) ex → Rn G shM 2 yX12_findFilled cX12_findFilled 6 (some .int) 199 [(0, .ref (ad_ G 0)), (1, .int v51), (2, .int v52), (3, .int ((gI_ S54 0 17) - 1))] [] S54 post := by
        intro ex hl hx
        refine lp_rule (body := (fun w55 : Int32 × St => bX12_findFilled_199 v51 v52 w55.1 w55.2)) (R := (fun w55 : Int32 × St => Rn G shM 2 yX12_findFilled cX12_findFilled 6 (some .int) 199 [(0, .ref (ad_ G 0)), (1, .int v51), (2, .int v52), (3, .int w55.1)] [] w55.2 post)) (X := (fun u67 : St => Rn G shM 2 yX12_findFilled cX12_findFilled 6 (some .int) 273 [(0, .ref (ad_ G 0)), (1, .int v51), (2, .int v52)] [] u67 post)) ?_ 5000 ((gI_ S54 0 17) - 1, S54) ex hl hx
        intro w55 oo h hB hX
        obtain ⟨v56, S57⟩ := w55
        replace h : bX12_findFilled_199 v51 v52 v56 S57 = some oo := h
        unfold bX12_findFilled_199 at h
        show Rn G shM 2 yX12_findFilled cX12_findFilled 6 (some .int) 199 [(0, .ref (ad_ G 0)), (1, .int v51), (2, .int v52), (3, .int v56)] [] S57 post
        refine r_iload_n 3 dX12_findFilled_199 rfl rfl ?_
        refine r_if_lt 273 dX12_findFilled_200 (by decide) (fun c66 => ?_) (fun c66 => ?_)
        · rw [if_pos c66] at h
          refine r_sub [(0, .ref (ad_ G 0)), (1, .int v51), (2, .int v52)] [0, 1, 2] rfl ?_
          obtain rfl := Option.some.inj h
          exact hX S57 rfl
        · rw [if_neg c66] at h
          refine r_iload_n 1 dX12_findFilled_203 rfl rfl ?_
          refine r_iload_n 3 dX12_findFilled_204 rfl rfl ?_
          refine r_ishr dX12_findFilled_205 ?_
          refine r_iconst (v := 1) dX12_findFilled_206 rfl ?_
          refine r_iand dX12_findFilled_207 ?_
          refine r_if_ne 267 dX12_findFilled_208 (by decide) (fun c65 => ?_) (fun c65 => ?_)
          · rw [if_neg c65] at h
            refine r_iinc (v := v56 + (-1)) [(0, .ref (ad_ G 0)), (1, .int v51), (2, .int v52), (3, .int (v56 + (-1)))] 3 [1, 2, 3, 0] dX12_findFilled_267 rfl rfl (by decide) rfl ?_
            refine r_goto 199 dX12_findFilled_270 (by decide) ?_
            obtain rfl := Option.some.inj h
            exact hB (v56 + (-1), S57) rfl
          · rw [if_pos c65] at h
            refine r_aload_n 0 dX12_findFilled_211 rfl rfl ?_
            refine r_iload_n 3 dX12_findFilled_212 rfl rfl ?_
            refine r_iload_n 2 dX12_findFilled_213 rfl rfl ?_
            obtain ⟨x58, hx58, h⟩ := b1_some h
            refine r_callVi (k := 0) (rest := []) (by omega) (mX12_doesFor hx58) sM_0 rfl rfl cb_X12_doesFor ml_X12_231 im_X12_doesFor se_X12_doesFor rfl rfl (Nat.le_of_ble_eq_true rfl) dX12_findFilled_214 ?_
            refine r_if_eq 267 dX12_findFilled_217 (by decide) (fun c64 => ?_) (fun c64 => ?_)
            · rw [if_pos c64] at h
              refine r_iinc (v := v56 + (-1)) [(0, .ref (ad_ G 0)), (1, .int v51), (2, .int v52), (3, .int (v56 + (-1)))] 3 [1, 2, 3, 0] dX12_findFilled_267 rfl rfl (by decide) rfl ?_
              refine r_goto 199 dX12_findFilled_270 (by decide) ?_
              obtain rfl := Option.some.inj h
              exact hB (v56 + (-1), S57) rfl
            · rw [if_neg c64] at h
              refine r_aload_n 0 dX12_findFilled_220 rfl rfl ?_
              refine r_getC (k := 0) (j := 25) (r := 19) sM_0 rfl fl_X12_72 dX12_findFilled_221 ?_
              refine r_iload_n 2 dX12_findFilled_224 rfl rfl ?_
              obtain ⟨x59, hx59, h⟩ := b1_some h
              refine r_iaload sM_19 hx59 dX12_findFilled_225 ?_
              refine r_aload_n 0 dX12_findFilled_226 rfl rfl ?_
              refine r_getC (k := 0) (j := 26) (r := 20) sM_0 rfl fl_X12_76 dX12_findFilled_227 ?_
              refine r_sipush (v := 4096) dX12_findFilled_230 rfl ?_
              refine r_iload_n 2 dX12_findFilled_233 rfl rfl ?_
              refine r_iconst (v := 1) dX12_findFilled_234 rfl ?_
              refine r_iadd dX12_findFilled_235 ?_
              refine r_imul dX12_findFilled_236 ?_
              refine r_iload_n 1 dX12_findFilled_237 rfl rfl ?_
              refine r_iconst (v := 1) dX12_findFilled_238 rfl ?_
              refine r_iload_n 3 dX12_findFilled_239 rfl rfl ?_
              refine r_ishl dX12_findFilled_240 ?_
              refine r_ior dX12_findFilled_241 ?_
              refine r_iadd dX12_findFilled_242 ?_
              obtain ⟨x60, hx60, h⟩ := b1_some h
              refine r_iaload sM_20 hx60 dX12_findFilled_243 ?_
              refine r_iadd dX12_findFilled_244 ?_
              refine r_aload_n 0 dX12_findFilled_245 rfl rfl ?_
              refine r_getC (k := 0) (j := 26) (r := 20) sM_0 rfl fl_X12_76 dX12_findFilled_246 ?_
              refine r_sipush (v := 4096) dX12_findFilled_249 rfl ?_
              refine r_iload_n 2 dX12_findFilled_252 rfl rfl ?_
              refine r_imul dX12_findFilled_253 ?_
              refine r_iload_n 1 dX12_findFilled_254 rfl rfl ?_
              refine r_iadd dX12_findFilled_255 ?_
              obtain ⟨x61, hx61, h⟩ := b1_some h
              refine r_iaload sM_20 hx61 dX12_findFilled_256 ?_
              refine r_icmp_ne 267 dX12_findFilled_257 (by decide) (fun c63 => ?_) (fun c63 => ?_)
              · rw [if_neg c63] at h
                refine r_iinc (v := v56 + (-1)) [(0, .ref (ad_ G 0)), (1, .int v51), (2, .int v52), (3, .int (v56 + (-1)))] 3 [1, 2, 3, 0] dX12_findFilled_267 rfl rfl (by decide) rfl ?_
                refine r_goto 199 dX12_findFilled_270 (by decide) ?_
                obtain rfl := Option.some.inj h
                exact hB (v56 + (-1), S57) rfl
              · rw [if_pos c63] at h
                refine r_aload_n 0 dX12_findFilled_260 rfl rfl ?_
                refine r_getC (k := 0) (j := 27) (r := 21) sM_0 rfl fl_X12_79 dX12_findFilled_261 ?_
                refine r_iload_n 2 dX12_findFilled_264 rfl rfl ?_
                refine r_iload_n 3 dX12_findFilled_265 rfl rfl ?_
                obtain ⟨S62, hS62, h⟩ := b1_some h
                refine r_iastore sM_21 hS62 dX12_findFilled_266 ?_
                refine r_iinc (v := v56 + (-1)) [(0, .ref (ad_ G 0)), (1, .int v51), (2, .int v52), (3, .int (v56 + (-1)))] 3 [1, 2, 3, 0] dX12_findFilled_267 rfl rfl (by decide) rfl ?_
                refine r_goto 199 dX12_findFilled_270 (by decide) ?_
                obtain rfl := Option.some.inj h
                exact hB (v56 + (-1), S62) rfl
      obtain ⟨u67, hu67, h⟩ := b1_some h
      refine key u67 hu67 ?_
      show Rn G shM 2 yX12_findFilled cX12_findFilled 6 (some .int) 273 [(0, .ref (ad_ G 0)), (1, .int v51), (2, .int v52)] [] u67 post
      refine r_iload_n 1 dX12_findFilled_273 rfl rfl ?_
      refine r_aload_n 0 dX12_findFilled_274 rfl rfl ?_
      refine r_getC (k := 0) (j := 27) (r := 21) sM_0 rfl fl_X12_79 dX12_findFilled_275 ?_
      refine r_iload_n 2 dX12_findFilled_278 rfl rfl ?_
      obtain ⟨x68, hx68, h⟩ := b1_some h
      refine r_iaload sM_21 hx68 dX12_findFilled_279 ?_
      refine r_bipush (v := (-4)) dX12_findFilled_280 rfl ?_
      refine r_icmp_ne 289 dX12_findFilled_282 (by decide) (fun c71 => ?_) (fun c71 => ?_)
      · rw [if_neg c71] at h
        refine r_iconst (v := 1) dX12_findFilled_289 rfl ?_
        refine r_aload_n 0 dX12_findFilled_290 rfl rfl ?_
        refine r_getC (k := 0) (j := 27) (r := 21) sM_0 rfl fl_X12_79 dX12_findFilled_291 ?_
        refine r_iload_n 2 dX12_findFilled_294 rfl rfl ?_
        obtain ⟨x69, hx69, h⟩ := b1_some h
        refine r_iaload sM_21 hx69 dX12_findFilled_295 ?_
        refine r_ishl dX12_findFilled_296 ?_
        refine r_ior dX12_findFilled_297 ?_
        obtain ⟨x70, hx70, h⟩ := b1_some h
        rw [Option.some.inj hx70]
        refine r_istore_n (i := 1) [(0, .ref (ad_ G 0)), (1, .int x70), (2, .int v52)] [1, 0, 2] dX12_findFilled_298 rfl (by decide) rfl ?_
        refine r_iinc (v := v52 + 1) [(0, .ref (ad_ G 0)), (1, .int x70), (2, .int (v52 + 1))] 2 [1, 2, 0] dX12_findFilled_299 rfl rfl (by decide) rfl ?_
        refine r_goto 176 dX12_findFilled_302 (by decide) ?_
        obtain rfl := Option.some.inj h
        exact hB (x70, v52 + 1, u67) rfl
      · rw [if_pos c71] at h
        refine r_iconst (v := 0) dX12_findFilled_285 rfl ?_
        refine r_goto 297 dX12_findFilled_286 (by decide) ?_
        refine r_ior dX12_findFilled_297 ?_
        refine r_istore_n (i := 1) [(0, .ref (ad_ G 0)), (1, .int (v51 ||| 0)), (2, .int v52)] [1, 0, 2] dX12_findFilled_298 rfl (by decide) rfl ?_
        refine r_iinc (v := v52 + 1) [(0, .ref (ad_ G 0)), (1, .int (v51 ||| 0)), (2, .int (v52 + 1))] 2 [1, 2, 0] dX12_findFilled_299 rfl rfl (by decide) rfl ?_
        refine r_goto 176 dX12_findFilled_302 (by decide) ?_
        obtain rfl := Option.some.inj h
        exact hB (v51 ||| 0, v52 + 1, u67) rfl
  obtain ⟨u73, hu73, h⟩ := b1_some h
  refine key u73 hu73 ?_
  show Rn G shM 2 yX12_findFilled cX12_findFilled 6 (some .int) 305 [(0, .ref (ad_ G 0))] [] u73 post
  refine r_aload_n 0 dX12_findFilled_305 rfl rfl ?_
  refine r_getC (k := 0) (j := 26) (r := 20) sM_0 rfl fl_X12_76 dX12_findFilled_306 ?_
  refine r_iconst (v := 0) dX12_findFilled_309 rfl ?_
  obtain ⟨x74, hx74, h⟩ := b1_some h
  refine r_iaload sM_20 hx74 dX12_findFilled_310 ?_
  obtain rfl := Option.some.inj h
  exact r_ireturn rfl dX12_findFilled_311 (hp)
theorem mX12_findFilled {G : Gx} {S : St} {o : (Int32 × St)}  (h : fX12_findFilled S = some o) : MR_ G shM 2 yX12_findFilled cX12_findFilled 6 (some .int) [.ref (ad_ G 0)] S (PI_ o.1 o.2) := MR_of cb_X12_findFilled (Nat.le_of_ble_eq_true rfl) [(0, .ref (ad_ G 0))] rfl (tX12_findFilled  h ⟨rfl, rfl⟩)
set_option maxRecDepth 100000 in
set_option maxHeartbeats 4000000 in
theorem tX12_filled {G : Gx} {post : Option Value → St → Prop} {S : St} {v1 : Int32} {o : (Int32 × St)}  (h : fX12_filled S v1 = some o) (hp : post (some (.int o.1)) o.2) : Rn G shM 3 yX12_filled cX12_filled 5 (some .int) 0 [(0, .ref (ad_ G 0)), (1, .int v1)] [] S post := by
  unfold fX12_filled at h
  refine r_iload_n 1 dX12_filled_0 rfl rfl ?_
  refine r_i2l dX12_filled_1 ?_
  refine r_lconst (v := 0) dX12_filled_2 rfl ?_
  refine r_lconst (v := 1) dX12_filled_3 rfl ?_
  obtain ⟨x21, hx21, h⟩ := b1_some h
  refine r_callSi (rest := []) (by omega) (mX12_in hx21) cb_X12_in ml_X12_145 sm_X12_in rfl rfl (Nat.le_of_ble_eq_true rfl) dX12_filled_4 ?_
  have key : ∀ ex, ((if x21 = 0 then b1 (fX12_in S ((v1 : Int32).toInt64) 10 ((9 + (gI_ S 0 22) : Int32).toInt64)) fun x34 => (if x34 = 0 then some (.inr ((-1), S)) else some (.inl ())) else some (.inl ())) : Option ((Unit) ⊕ (Int32 × St))) = some ex → (∀ w22, ex = .inl w22 → Rn G shM 3 yX12_filled cX12_filled 5 (some .int) 31 [(0, .ref (ad_ G 0)), (1, .int v1)] [] S post) → (∀ r37, ex = .inr r37 → post (some (.int r37.1)) r37.2) → Rn G shM 3 yX12_filled cX12_filled 5 (some .int) 7 [(0, .ref (ad_ G 0)), (1, .int v1)] [.int x21] S post := by
    intro ex h hJ0 hR
    refine r_if_ne 31 dX12_filled_7 (by decide) (fun c36 => ?_) (fun c36 => ?_)
    · rw [if_neg c36] at h
      obtain rfl := Option.some.inj h
      exact hJ0 _ rfl
    · rw [if_pos c36] at h
      refine r_iload_n 1 dX12_filled_10 rfl rfl ?_
      refine r_i2l dX12_filled_11 ?_
      refine r_ldc2 kl_X12_236 dX12_filled_12 ?_
      refine r_bipush (v := 9) dX12_filled_15 rfl ?_
      refine r_aload_n 0 dX12_filled_17 rfl rfl ?_
      refine r_getI (k := 0) (j := 22) sM_0 rfl fl_X12_171 dX12_filled_18 ?_
      refine r_iadd dX12_filled_21 ?_
      refine r_i2l dX12_filled_22 ?_
      obtain ⟨x34, hx34, h⟩ := b1_some h
      refine r_callSi (rest := []) (by omega) (mX12_in hx34) cb_X12_in ml_X12_145 sm_X12_in rfl rfl (Nat.le_of_ble_eq_true rfl) dX12_filled_23 ?_
      refine r_if_ne 31 dX12_filled_26 (by decide) (fun c35 => ?_) (fun c35 => ?_)
      · rw [if_neg c35] at h
        obtain rfl := Option.some.inj h
        exact hJ0 _ rfl
      · rw [if_pos c35] at h
        refine r_iconst (v := (-1)) dX12_filled_29 rfl ?_
        obtain rfl := Option.some.inj h
        exact r_ireturn rfl dX12_filled_30 (hR ((-1), S) rfl)
  rcases bs_some h with ⟨w22, hw22, h⟩ | ⟨r37, hw22, h⟩
  · refine key _ hw22 (fun z ez => ?_) (fun z ez => by cases ez)
    cases ez
    refine r_aload_n 0 dX12_filled_31 rfl rfl ?_
    obtain ⟨q23, hq23, h⟩ := b1_some h
    refine r_callVi (k := 0) (rest := []) (by omega) (mX12_findFilled hq23) sM_0 rfl rfl cb_X12_findFilled ml_X12_238 im_X12_findFilled se_X12_findFilled rfl rfl (Nat.le_of_ble_eq_true rfl) dX12_filled_32 ?_
    refine r_istore_n (i := 2) [(0, .ref (ad_ G 0)), (1, .int v1), (2, .int q23.1)] [1, 2, 0] dX12_filled_35 rfl (by decide) rfl ?_
    refine r_iconst (v := 0) dX12_filled_36 rfl ?_
    refine r_istore_n (i := 3) [(0, .ref (ad_ G 0)), (1, .int v1), (2, .int q23.1), (3, .int 0)] [1, 2, 3, 0] dX12_filled_37 rfl (by decide) rfl ?_
    refine r_iconst (v := 0) dX12_filled_38 rfl ?_
    refine r_istore (i := 4) [(0, .ref (ad_ G 0)), (1, .int v1), (2, .int q23.1), (3, .int 0), (4, .int 0)] [1, 2, 3, 4, 0] dX12_filled_39 (by decide) rfl ?_
    have key : ∀ ex, lp (fun w24 : Int32 × Int32 => bX12_filled_41 q23 w24.1 w24.2) 5000 (0, 0) = some ex → (fun u30 : Int32 => Rn G shM 3 yX12_filled cX12_filled 5 (some .int) 76 [(0, .ref (ad_ G 0)), (1, .int v1), (2, .int q23.1), (3, .int u30)] [] q23.2 post) ex → Rn G shM 3 yX12_filled cX12_filled 5 (some .int) 41 [(0, .ref (ad_ G 0)), (1, .int v1), (2, .int q23.1), (3, .int 0), (4, .int 0)] [] q23.2 post := by
      intro ex hl hx
      refine lp_rule (body := (fun w24 : Int32 × Int32 => bX12_filled_41 q23 w24.1 w24.2)) (R := (fun w24 : Int32 × Int32 => Rn G shM 3 yX12_filled cX12_filled 5 (some .int) 41 [(0, .ref (ad_ G 0)), (1, .int v1), (2, .int q23.1), (3, .int w24.1), (4, .int w24.2)] [] q23.2 post)) (X := (fun u30 : Int32 => Rn G shM 3 yX12_filled cX12_filled 5 (some .int) 76 [(0, .ref (ad_ G 0)), (1, .int v1), (2, .int q23.1), (3, .int u30)] [] q23.2 post)) ?_ 5000 (0, 0) ex hl hx
      intro w24 oo h hB hX
      obtain ⟨v25, v26⟩ := w24
      replace h : bX12_filled_41 q23 v25 v26 = some oo := h
      unfold bX12_filled_41 at h
      show Rn G shM 3 yX12_filled cX12_filled 5 (some .int) 41 [(0, .ref (ad_ G 0)), (1, .int v1), (2, .int q23.1), (3, .int v25), (4, .int v26)] [] q23.2 post
      refine r_iload 4 dX12_filled_41 rfl ?_
      refine r_aload_n 0 dX12_filled_43 rfl rfl ?_
      refine r_getI (k := 0) (j := 22) sM_0 rfl fl_X12_171 dX12_filled_44 ?_
      refine r_icmp_ge 76 dX12_filled_47 (by decide) (fun c29 => ?_) (fun c29 => ?_)
      · rw [if_pos c29] at h
        refine r_sub [(0, .ref (ad_ G 0)), (1, .int v1), (2, .int q23.1), (3, .int v25)] [0, 1, 2, 3] rfl ?_
        obtain rfl := Option.some.inj h
        exact hX v25 rfl
      · rw [if_neg c29] at h
        refine r_iload_n 3 dX12_filled_50 rfl rfl ?_
        refine r_aload_n 0 dX12_filled_51 rfl rfl ?_
        refine r_getC (k := 0) (j := 27) (r := 21) sM_0 rfl fl_X12_79 dX12_filled_52 ?_
        refine r_iload 4 dX12_filled_55 rfl ?_
        obtain ⟨x27, hx27, h⟩ := b1_some h
        refine r_iaload sM_21 hx27 dX12_filled_57 ?_
        refine r_bipush (v := (-4)) dX12_filled_58 rfl ?_
        refine r_icmp_ne 67 dX12_filled_60 (by decide) (fun c28 => ?_) (fun c28 => ?_)
        · rw [if_neg c28] at h
          refine r_iconst (v := 1) dX12_filled_67 rfl ?_
          refine r_iadd dX12_filled_68 ?_
          refine r_istore_n (i := 3) [(0, .ref (ad_ G 0)), (1, .int v1), (2, .int q23.1), (3, .int (v25 + 1)), (4, .int v26)] [1, 2, 3, 0, 4] dX12_filled_69 rfl (by decide) rfl ?_
          refine r_iinc (v := v26 + 1) [(0, .ref (ad_ G 0)), (1, .int v1), (2, .int q23.1), (3, .int (v25 + 1)), (4, .int (v26 + 1))] 4 [1, 2, 3, 4, 0] dX12_filled_70 rfl rfl (by decide) rfl ?_
          refine r_goto 41 dX12_filled_73 (by decide) ?_
          obtain rfl := Option.some.inj h
          exact hB (v25 + 1, v26 + 1) rfl
        · rw [if_pos c28] at h
          refine r_iconst (v := 0) dX12_filled_63 rfl ?_
          refine r_goto 68 dX12_filled_64 (by decide) ?_
          refine r_iadd dX12_filled_68 ?_
          refine r_istore_n (i := 3) [(0, .ref (ad_ G 0)), (1, .int v1), (2, .int q23.1), (3, .int (v25 + 0)), (4, .int v26)] [1, 2, 3, 0, 4] dX12_filled_69 rfl (by decide) rfl ?_
          refine r_iinc (v := v26 + 1) [(0, .ref (ad_ G 0)), (1, .int v1), (2, .int q23.1), (3, .int (v25 + 0)), (4, .int (v26 + 1))] 4 [1, 2, 3, 4, 0] dX12_filled_70 rfl rfl (by decide) rfl ?_
          refine r_goto 41 dX12_filled_73 (by decide) ?_
          obtain rfl := Option.some.inj h
          exact hB (v25 + 0, v26 + 1) rfl
    obtain ⟨u30, hu30, h⟩ := b1_some h
    refine key u30 hu30 ?_
    show Rn G shM 3 yX12_filled cX12_filled 5 (some .int) 76 [(0, .ref (ad_ G 0)), (1, .int v1), (2, .int q23.1), (3, .int u30)] [] q23.2 post
    refine r_iload_n 1 dX12_filled_76 rfl rfl ?_
    refine r_if_ne 84 dX12_filled_77 (by decide) (fun c33 => ?_) (fun c33 => ?_)
    · rw [if_neg c33] at h
      refine r_iload_n 1 dX12_filled_84 rfl rfl ?_
      refine r_iconst (v := 1) dX12_filled_85 rfl ?_
      refine r_icmp_ne 93 dX12_filled_86 (by decide) (fun c32 => ?_) (fun c32 => ?_)
      · rw [if_neg c32] at h
        refine r_aload_n 0 dX12_filled_93 rfl rfl ?_
        refine r_getC (k := 0) (j := 27) (r := 21) sM_0 rfl fl_X12_79 dX12_filled_94 ?_
        refine r_iload_n 1 dX12_filled_97 rfl rfl ?_
        refine r_bipush (v := 10) dX12_filled_98 rfl ?_
        refine r_isub dX12_filled_100 ?_
        obtain ⟨x31, hx31, h⟩ := b1_some h
        refine r_iaload sM_21 hx31 dX12_filled_101 ?_
        obtain rfl := Option.some.inj h
        exact r_ireturn rfl dX12_filled_102 (hp)
      · rw [if_pos c32] at h
        refine r_iload_n 3 dX12_filled_89 rfl rfl ?_
        refine r_goto 102 dX12_filled_90 (by decide) ?_
        obtain rfl := Option.some.inj h
        exact r_ireturn rfl dX12_filled_102 (hp)
    · rw [if_pos c33] at h
      refine r_iload_n 2 dX12_filled_80 rfl rfl ?_
      refine r_goto 102 dX12_filled_81 (by decide) ?_
      obtain rfl := Option.some.inj h
      exact r_ireturn rfl dX12_filled_102 (hp)
  · refine key _ hw22 (fun z ez => by cases ez) (fun z ez => ?_)
    cases ez
    obtain rfl := Option.some.inj h
    exact hp
theorem mX12_filled {G : Gx} {S : St} {v1 : Int32} {o : (Int32 × St)}  (h : fX12_filled S v1 = some o) : MR_ G shM 3 yX12_filled cX12_filled 5 (some .int) [.ref (ad_ G 0), .int v1] S (PI_ o.1 o.2) := MR_of cb_X12_filled (Nat.le_of_ble_eq_true rfl) [(0, .ref (ad_ G 0)), (1, .int v1)] rfl (tX12_filled  h ⟨rfl, rfl⟩)
set_option maxRecDepth 100000 in
set_option maxHeartbeats 4000000 in
theorem tX12_deliver {G : Gx} {post : Option Value → St → Prop} {S : St} {o : (Int32 × St)}  (h : fX12_deliver S = some o) (hp : post (some (.int o.1)) o.2) : Rn G shM 3 yX12_deliver cX12_deliver 5 (some .int) 0 [(0, .ref (ad_ G 0))] [] S post := by
  unfold fX12_deliver at h
  refine r_aload_n 0 dX12_deliver_0 rfl rfl ?_
  obtain ⟨q21, hq21, h⟩ := b1_some h
  refine r_callVi (k := 0) (rest := []) (by omega) (mX12_findFilled hq21) sM_0 rfl rfl cb_X12_findFilled ml_X12_238 im_X12_findFilled se_X12_findFilled rfl rfl (Nat.le_of_ble_eq_true rfl) dX12_deliver_1 ?_
  refine r_istore_n (i := 1) [(0, .ref (ad_ G 0)), (1, .int q21.1)] [1, 0] dX12_deliver_4 rfl (by decide) rfl ?_
  refine r_iconst (v := 0) dX12_deliver_5 rfl ?_
  refine r_istore_n (i := 2) [(0, .ref (ad_ G 0)), (1, .int q21.1), (2, .int 0)] [1, 2, 0] dX12_deliver_6 rfl (by decide) rfl ?_
  refine r_iconst (v := 0) dX12_deliver_7 rfl ?_
  refine r_istore_n (i := 3) [(0, .ref (ad_ G 0)), (1, .int q21.1), (2, .int 0), (3, .int 0)] [1, 2, 3, 0] dX12_deliver_8 rfl (by decide) rfl ?_
  refine r_iconst (v := 0) dX12_deliver_9 rfl ?_
  refine r_istore (i := 4) [(0, .ref (ad_ G 0)), (1, .int q21.1), (2, .int 0), (3, .int 0), (4, .int 0)] [1, 2, 3, 4, 0] dX12_deliver_10 (by decide) rfl ?_
  have key : ∀ ex, lp (fun w22 : Int32 × Int32 × Int32 × St => bX12_deliver_12  w22.1 w22.2.1 w22.2.2.1 w22.2.2.2) 5000 (0, 0, 0, q21.2) = some ex → (fun u38 : Int32 × Int32 × St => Rn G shM 3 yX12_deliver cX12_deliver 5 (some .int) 96 [(0, .ref (ad_ G 0)), (1, .int q21.1), (2, .int u38.1), (3, .int u38.2.1)] [] u38.2.2 post) ex → Rn G shM 3 yX12_deliver cX12_deliver 5 (some .int) 12 [(0, .ref (ad_ G 0)), (1, .int q21.1), (2, .int 0), (3, .int 0), (4, .int 0)] [] q21.2 post := by
    intro ex hl hx
    refine lp_rule (body := (fun w22 : Int32 × Int32 × Int32 × St => bX12_deliver_12  w22.1 w22.2.1 w22.2.2.1 w22.2.2.2)) (R := (fun w22 : Int32 × Int32 × Int32 × St => Rn G shM 3 yX12_deliver cX12_deliver 5 (some .int) 12 [(0, .ref (ad_ G 0)), (1, .int q21.1), (2, .int w22.1), (3, .int w22.2.1), (4, .int w22.2.2.1)] [] w22.2.2.2 post)) (X := (fun u38 : Int32 × Int32 × St => Rn G shM 3 yX12_deliver cX12_deliver 5 (some .int) 96 [(0, .ref (ad_ G 0)), (1, .int q21.1), (2, .int u38.1), (3, .int u38.2.1)] [] u38.2.2 post)) ?_ 5000 (0, 0, 0, q21.2) ex hl hx
    intro w22 oo h hB hX
    obtain ⟨v23, v24, v25, S26⟩ := w22
    replace h : bX12_deliver_12  v23 v24 v25 S26 = some oo := h
    unfold bX12_deliver_12 at h
    show Rn G shM 3 yX12_deliver cX12_deliver 5 (some .int) 12 [(0, .ref (ad_ G 0)), (1, .int q21.1), (2, .int v23), (3, .int v24), (4, .int v25)] [] S26 post
    refine r_iload 4 dX12_deliver_12 rfl ?_
    refine r_aload_n 0 dX12_deliver_14 rfl rfl ?_
    refine r_getI (k := 0) (j := 22) sM_0 rfl fl_X12_171 dX12_deliver_15 ?_
    refine r_icmp_ge 96 dX12_deliver_18 (by decide) (fun c37 => ?_) (fun c37 => ?_)
    · rw [if_pos c37] at h
      refine r_sub [(0, .ref (ad_ G 0)), (1, .int q21.1), (2, .int v23), (3, .int v24)] [0, 1, 2, 3] rfl ?_
      obtain rfl := Option.some.inj h
      exact hX (v23, v24, S26) rfl
    · rw [if_neg c37] at h
      refine r_aload_n 0 dX12_deliver_21 rfl rfl ?_
      refine r_getC (k := 0) (j := 27) (r := 21) sM_0 rfl fl_X12_79 dX12_deliver_22 ?_
      refine r_iload 4 dX12_deliver_25 rfl ?_
      obtain ⟨x27, hx27, h⟩ := b1_some h
      refine r_iaload sM_21 hx27 dX12_deliver_27 ?_
      refine r_bipush (v := (-4)) dX12_deliver_28 rfl ?_
      refine r_icmp_eq 48 dX12_deliver_30 (by decide) (fun c36 => ?_) (fun c36 => ?_)
      · rw [if_pos c36] at h
        refine r_aload_n 0 dX12_deliver_48 rfl rfl ?_
        refine r_getC (k := 0) (j := 23) (r := 17) sM_0 rfl fl_X12_66 dX12_deliver_49 ?_
        refine r_iload_n 3 dX12_deliver_52 rfl rfl ?_
        refine r_aload_n 0 dX12_deliver_53 rfl rfl ?_
        refine r_getC (k := 0) (j := 23) (r := 17) sM_0 rfl fl_X12_66 dX12_deliver_54 ?_
        refine r_iload 4 dX12_deliver_57 rfl ?_
        obtain ⟨x28, hx28, h⟩ := b1_some h
        refine r_iaload sM_17 hx28 dX12_deliver_59 ?_
        obtain ⟨S29, hS29, h⟩ := b1_some h
        refine r_iastore sM_17 hS29 dX12_deliver_60 ?_
        refine r_aload_n 0 dX12_deliver_61 rfl rfl ?_
        refine r_getC (k := 0) (j := 24) (r := 18) sM_0 rfl fl_X12_69 dX12_deliver_62 ?_
        refine r_iload_n 3 dX12_deliver_65 rfl rfl ?_
        refine r_aload_n 0 dX12_deliver_66 rfl rfl ?_
        refine r_getC (k := 0) (j := 24) (r := 18) sM_0 rfl fl_X12_69 dX12_deliver_67 ?_
        refine r_iload 4 dX12_deliver_70 rfl ?_
        obtain ⟨x30, hx30, h⟩ := b1_some h
        refine r_iaload sM_18 hx30 dX12_deliver_72 ?_
        obtain ⟨S31, hS31, h⟩ := b1_some h
        refine r_iastore sM_18 hS31 dX12_deliver_73 ?_
        refine r_aload_n 0 dX12_deliver_74 rfl rfl ?_
        refine r_getC (k := 0) (j := 25) (r := 19) sM_0 rfl fl_X12_72 dX12_deliver_75 ?_
        refine r_iload_n 3 dX12_deliver_78 rfl rfl ?_
        refine r_aload_n 0 dX12_deliver_79 rfl rfl ?_
        refine r_getC (k := 0) (j := 25) (r := 19) sM_0 rfl fl_X12_72 dX12_deliver_80 ?_
        refine r_iload 4 dX12_deliver_83 rfl ?_
        obtain ⟨x32, hx32, h⟩ := b1_some h
        refine r_iaload sM_19 hx32 dX12_deliver_85 ?_
        obtain ⟨S33, hS33, h⟩ := b1_some h
        refine r_iastore sM_19 hS33 dX12_deliver_86 ?_
        refine r_iinc (v := v24 + 1) [(0, .ref (ad_ G 0)), (1, .int q21.1), (2, .int v23), (3, .int (v24 + 1)), (4, .int v25)] 3 [1, 2, 3, 0, 4] dX12_deliver_87 rfl rfl (by decide) rfl ?_
        refine r_iinc (v := v25 + 1) [(0, .ref (ad_ G 0)), (1, .int q21.1), (2, .int v23), (3, .int (v24 + 1)), (4, .int (v25 + 1))] 4 [1, 2, 3, 4, 0] dX12_deliver_90 rfl rfl (by decide) rfl ?_
        refine r_goto 12 dX12_deliver_93 (by decide) ?_
        obtain rfl := Option.some.inj h
        exact hB (v23, v24 + 1, v25 + 1, S33) rfl
      · rw [if_neg c36] at h
        refine r_iload_n 2 dX12_deliver_33 rfl rfl ?_
        refine r_iconst (v := 1) dX12_deliver_34 rfl ?_
        refine r_aload_n 0 dX12_deliver_35 rfl rfl ?_
        refine r_getC (k := 0) (j := 27) (r := 21) sM_0 rfl fl_X12_79 dX12_deliver_36 ?_
        refine r_iload 4 dX12_deliver_39 rfl ?_
        obtain ⟨x34, hx34, h⟩ := b1_some h
        refine r_iaload sM_21 hx34 dX12_deliver_41 ?_
        refine r_ishl dX12_deliver_42 ?_
        refine r_ior dX12_deliver_43 ?_
        obtain ⟨x35, hx35, h⟩ := b1_some h
        rw [Option.some.inj hx35]
        refine r_istore_n (i := 2) [(0, .ref (ad_ G 0)), (1, .int q21.1), (2, .int x35), (3, .int v24), (4, .int v25)] [1, 2, 0, 3, 4] dX12_deliver_44 rfl (by decide) rfl ?_
        refine r_goto 90 dX12_deliver_45 (by decide) ?_
        refine r_iinc (v := v25 + 1) [(0, .ref (ad_ G 0)), (1, .int q21.1), (2, .int x35), (3, .int v24), (4, .int (v25 + 1))] 4 [1, 2, 3, 4, 0] dX12_deliver_90 rfl rfl (by decide) rfl ?_
        refine r_goto 12 dX12_deliver_93 (by decide) ?_
        obtain rfl := Option.some.inj h
        exact hB (x35, v24, v25 + 1, S26) rfl
  obtain ⟨u38, hu38, h⟩ := b1_some h
  refine key u38 hu38 ?_
  show Rn G shM 3 yX12_deliver cX12_deliver 5 (some .int) 96 [(0, .ref (ad_ G 0)), (1, .int q21.1), (2, .int u38.1), (3, .int u38.2.1)] [] u38.2.2 post
  refine r_aload_n 0 dX12_deliver_96 rfl rfl ?_
  refine r_iload_n 3 dX12_deliver_97 rfl rfl ?_
  obtain ⟨S39, hS39, h⟩ := b1_some h
  refine r_setI (k := 0) (j := 22) sM_0 rfl pf_X12_171 hS39 dX12_deliver_98 ?_
  refine r_iconst (v := 0) dX12_deliver_101 rfl ?_
  refine r_istore_n (i := 3) [(0, .ref (ad_ G 0)), (1, .int q21.1), (2, .int u38.1), (3, .int 0)] [1, 2, 3, 0] dX12_deliver_102 rfl (by decide) rfl ?_
  refine r_iconst (v := 0) dX12_deliver_103 rfl ?_
  refine r_istore (i := 4) [(0, .ref (ad_ G 0)), (1, .int q21.1), (2, .int u38.1), (3, .int 0), (4, .int 0)] [1, 2, 3, 4, 0] dX12_deliver_104 (by decide) rfl ?_
  have key : ∀ ex, lp (fun w40 : Int32 × Int32 × St => bX12_deliver_106 u38 w40.1 w40.2.1 w40.2.2) 5000 (0, 0, S39) = some ex → (fun u54 : Int32 × St => Rn G shM 3 yX12_deliver cX12_deliver 5 (some .int) 185 [(0, .ref (ad_ G 0)), (1, .int q21.1), (3, .int u54.1)] [] u54.2 post) ex → Rn G shM 3 yX12_deliver cX12_deliver 5 (some .int) 106 [(0, .ref (ad_ G 0)), (1, .int q21.1), (2, .int u38.1), (3, .int 0), (4, .int 0)] [] S39 post := by
    intro ex hl hx
    refine lp_rule (body := (fun w40 : Int32 × Int32 × St => bX12_deliver_106 u38 w40.1 w40.2.1 w40.2.2)) (R := (fun w40 : Int32 × Int32 × St => Rn G shM 3 yX12_deliver cX12_deliver 5 (some .int) 106 [(0, .ref (ad_ G 0)), (1, .int q21.1), (2, .int u38.1), (3, .int w40.1), (4, .int w40.2.1)] [] w40.2.2 post)) (X := (fun u54 : Int32 × St => Rn G shM 3 yX12_deliver cX12_deliver 5 (some .int) 185 [(0, .ref (ad_ G 0)), (1, .int q21.1), (3, .int u54.1)] [] u54.2 post)) ?_ 5000 (0, 0, S39) ex hl hx
    intro w40 oo h hB hX
    obtain ⟨v41, v42, S43⟩ := w40
    replace h : bX12_deliver_106 u38 v41 v42 S43 = some oo := h
    unfold bX12_deliver_106 at h
    show Rn G shM 3 yX12_deliver cX12_deliver 5 (some .int) 106 [(0, .ref (ad_ G 0)), (1, .int q21.1), (2, .int u38.1), (3, .int v41), (4, .int v42)] [] S43 post
    refine r_iload 4 dX12_deliver_106 rfl ?_
    refine r_aload_n 0 dX12_deliver_108 rfl rfl ?_
    refine r_getI (k := 0) (j := 17) sM_0 rfl fl_X12_226 dX12_deliver_109 ?_
    refine r_icmp_ge 185 dX12_deliver_112 (by decide) (fun c53 => ?_) (fun c53 => ?_)
    · rw [if_pos c53] at h
      refine r_sub [(0, .ref (ad_ G 0)), (1, .int q21.1), (3, .int v41)] [0, 1, 3] rfl ?_
      obtain rfl := Option.some.inj h
      exact hX (v41, S43) rfl
    · rw [if_neg c53] at h
      refine r_iload_n 2 dX12_deliver_115 rfl rfl ?_
      refine r_iload 4 dX12_deliver_116 rfl ?_
      refine r_ishr dX12_deliver_118 ?_
      refine r_iconst (v := 1) dX12_deliver_119 rfl ?_
      refine r_iand dX12_deliver_120 ?_
      refine r_if_ne 179 dX12_deliver_121 (by decide) (fun c52 => ?_) (fun c52 => ?_)
      · rw [if_neg c52] at h
        refine r_iinc (v := v42 + 1) [(0, .ref (ad_ G 0)), (1, .int q21.1), (2, .int u38.1), (3, .int v41), (4, .int (v42 + 1))] 4 [1, 2, 3, 4, 0] dX12_deliver_179 rfl rfl (by decide) rfl ?_
        refine r_goto 106 dX12_deliver_182 (by decide) ?_
        obtain rfl := Option.some.inj h
        exact hB (v41, v42 + 1, S43) rfl
      · rw [if_pos c52] at h
        refine r_aload_n 0 dX12_deliver_124 rfl rfl ?_
        refine r_getC (k := 0) (j := 18) (r := 13) sM_0 rfl fl_X12_54 dX12_deliver_125 ?_
        refine r_iload_n 3 dX12_deliver_128 rfl rfl ?_
        refine r_aload_n 0 dX12_deliver_129 rfl rfl ?_
        refine r_getC (k := 0) (j := 18) (r := 13) sM_0 rfl fl_X12_54 dX12_deliver_130 ?_
        refine r_iload 4 dX12_deliver_133 rfl ?_
        obtain ⟨x44, hx44, h⟩ := b1_some h
        refine r_iaload sM_13 hx44 dX12_deliver_135 ?_
        obtain ⟨S45, hS45, h⟩ := b1_some h
        refine r_iastore sM_13 hS45 dX12_deliver_136 ?_
        refine r_aload_n 0 dX12_deliver_137 rfl rfl ?_
        refine r_getC (k := 0) (j := 19) (r := 14) sM_0 rfl fl_X12_57 dX12_deliver_138 ?_
        refine r_iload_n 3 dX12_deliver_141 rfl rfl ?_
        refine r_aload_n 0 dX12_deliver_142 rfl rfl ?_
        refine r_getC (k := 0) (j := 19) (r := 14) sM_0 rfl fl_X12_57 dX12_deliver_143 ?_
        refine r_iload 4 dX12_deliver_146 rfl ?_
        obtain ⟨x46, hx46, h⟩ := b1_some h
        refine r_iaload sM_14 hx46 dX12_deliver_148 ?_
        obtain ⟨S47, hS47, h⟩ := b1_some h
        refine r_iastore sM_14 hS47 dX12_deliver_149 ?_
        refine r_aload_n 0 dX12_deliver_150 rfl rfl ?_
        refine r_getC (k := 0) (j := 20) (r := 15) sM_0 rfl fl_X12_60 dX12_deliver_151 ?_
        refine r_iload_n 3 dX12_deliver_154 rfl rfl ?_
        refine r_aload_n 0 dX12_deliver_155 rfl rfl ?_
        refine r_getC (k := 0) (j := 20) (r := 15) sM_0 rfl fl_X12_60 dX12_deliver_156 ?_
        refine r_iload 4 dX12_deliver_159 rfl ?_
        obtain ⟨x48, hx48, h⟩ := b1_some h
        refine r_iaload sM_15 hx48 dX12_deliver_161 ?_
        obtain ⟨S49, hS49, h⟩ := b1_some h
        refine r_iastore sM_15 hS49 dX12_deliver_162 ?_
        refine r_aload_n 0 dX12_deliver_163 rfl rfl ?_
        refine r_getC (k := 0) (j := 21) (r := 16) sM_0 rfl fl_X12_63 dX12_deliver_164 ?_
        refine r_iload_n 3 dX12_deliver_167 rfl rfl ?_
        refine r_aload_n 0 dX12_deliver_168 rfl rfl ?_
        refine r_getC (k := 0) (j := 21) (r := 16) sM_0 rfl fl_X12_63 dX12_deliver_169 ?_
        refine r_iload 4 dX12_deliver_172 rfl ?_
        obtain ⟨x50, hx50, h⟩ := b1_some h
        refine r_iaload sM_16 hx50 dX12_deliver_174 ?_
        obtain ⟨S51, hS51, h⟩ := b1_some h
        refine r_iastore sM_16 hS51 dX12_deliver_175 ?_
        refine r_iinc (v := v41 + 1) [(0, .ref (ad_ G 0)), (1, .int q21.1), (2, .int u38.1), (3, .int (v41 + 1)), (4, .int v42)] 3 [1, 2, 3, 0, 4] dX12_deliver_176 rfl rfl (by decide) rfl ?_
        refine r_iinc (v := v42 + 1) [(0, .ref (ad_ G 0)), (1, .int q21.1), (2, .int u38.1), (3, .int (v41 + 1)), (4, .int (v42 + 1))] 4 [1, 2, 3, 4, 0] dX12_deliver_179 rfl rfl (by decide) rfl ?_
        refine r_goto 106 dX12_deliver_182 (by decide) ?_
        obtain rfl := Option.some.inj h
        exact hB (v41 + 1, v42 + 1, S51) rfl
  obtain ⟨u54, hu54, h⟩ := b1_some h
  refine key u54 hu54 ?_
  show Rn G shM 3 yX12_deliver cX12_deliver 5 (some .int) 185 [(0, .ref (ad_ G 0)), (1, .int q21.1), (3, .int u54.1)] [] u54.2 post
  refine r_aload_n 0 dX12_deliver_185 rfl rfl ?_
  refine r_iload_n 2 dX12_deliver_186 rfl rfl ?_
  obtain ⟨S55, hS55, h⟩ := b1_some h
  refine r_setI (k := 0) (j := 17) sM_0 rfl pf_X12_226 hS55 dX12_deliver_187 ?_
  refine r_iload_n 1 dX12_deliver_190 rfl rfl ?_
  obtain rfl := Option.some.inj h
  exact r_ireturn rfl dX12_deliver_191 (hp)
theorem mX12_deliver {G : Gx} {S : St} {o : (Int32 × St)}  (h : fX12_deliver S = some o) : MR_ G shM 3 yX12_deliver cX12_deliver 5 (some .int) [.ref (ad_ G 0)] S (PI_ o.1 o.2) := MR_of cb_X12_deliver (Nat.le_of_ble_eq_true rfl) [(0, .ref (ad_ G 0))] rfl (tX12_deliver  h ⟨rfl, rfl⟩)
set_option maxRecDepth 100000 in
set_option maxHeartbeats 4000000 in
theorem tX12_gains {G : Gx} {post : Option Value → St → Prop} {S : St} {v1 : Int32} {v2 : Int32} {o : (Int32 × St)}  (h : fX12_gains S v1 v2 = some o) (hp : post (some (.int o.1)) o.2) : Rn G shM 5 yX12_gains cX12_gains 6 (some .int) 0 [(0, .ref (ad_ G 0)), (1, .int v1), (2, .int v2)] [] S post := by
  unfold fX12_gains at h
  refine r_aload_n 0 dX12_gains_0 rfl rfl ?_
  refine r_iload_n 1 dX12_gains_1 rfl rfl ?_
  obtain ⟨x21, hx21, h⟩ := b1_some h
  refine r_callVi (k := 0) (rest := []) (by omega) (mX12_isShape hx21) sM_0 rfl rfl cb_X12_isShape ml_X12_190 im_X12_isShape se_X12_isShape rfl rfl (Nat.le_of_ble_eq_true rfl) dX12_gains_2 ?_
  refine r_if_eq 20 dX12_gains_5 (by decide) (fun c29 => ?_) (fun c29 => ?_)
  · rw [if_pos c29] at h
    refine r_ldc kc_X12_242 dX12_gains_20 ?_
    obtain rfl := Option.some.inj h
    exact r_ireturn rfl dX12_gains_22 (hp)
  · rw [if_neg c29] at h
    refine r_iload_n 2 dX12_gains_8 rfl rfl ?_
    refine r_i2l dX12_gains_9 ?_
    refine r_lconst (v := 1) dX12_gains_10 rfl ?_
    refine r_ldc2 kl_X12_169 dX12_gains_11 ?_
    obtain ⟨x22, hx22, h⟩ := b1_some h
    refine r_callSi (rest := []) (by omega) (mX12_in hx22) cb_X12_in ml_X12_145 sm_X12_in rfl rfl (Nat.le_of_ble_eq_true rfl) dX12_gains_14 ?_
    refine r_if_ne 23 dX12_gains_17 (by decide) (fun c28 => ?_) (fun c28 => ?_)
    · rw [if_neg c28] at h
      refine r_aload_n 0 dX12_gains_23 rfl rfl ?_
      refine r_iconst (v := (-1)) dX12_gains_24 rfl ?_
      obtain ⟨q23, hq23, h⟩ := b1_some h
      refine r_callVi (k := 0) (rest := []) (by omega) (mX12_mostOfAll hq23) sM_0 rfl rfl cb_X12_mostOfAll ml_X12_218 im_X12_mostOfAll se_X12_mostOfAll rfl rfl (Nat.le_of_ble_eq_true rfl) dX12_gains_25 ?_
      refine r_istore_n (i := 3) [(0, .ref (ad_ G 0)), (1, .int v1), (2, .int v2), (3, .int q23.1)] [1, 2, 3, 0] dX12_gains_28 rfl (by decide) rfl ?_
      refine r_aload_n 0 dX12_gains_29 rfl rfl ?_
      refine r_getC (k := 0) (j := 12) (r := 8) sM_0 rfl fl_X12_39 dX12_gains_30 ?_
      refine r_iload_n 1 dX12_gains_33 rfl rfl ?_
      obtain ⟨x24, hx24, h⟩ := b1_some h
      refine r_iaload sM_8 hx24 dX12_gains_34 ?_
      refine r_istore (i := 4) [(0, .ref (ad_ G 0)), (1, .int v1), (2, .int v2), (3, .int q23.1), (4, .int x24)] [1, 2, 3, 4, 0] dX12_gains_35 (by decide) rfl ?_
      refine r_aload_n 0 dX12_gains_37 rfl rfl ?_
      refine r_getC (k := 0) (j := 12) (r := 8) sM_0 rfl fl_X12_39 dX12_gains_38 ?_
      refine r_iload_n 1 dX12_gains_41 rfl rfl ?_
      refine r_iload_n 2 dX12_gains_42 rfl rfl ?_
      obtain ⟨S25, hS25, h⟩ := b1_some h
      refine r_iastore sM_8 hS25 dX12_gains_43 ?_
      refine r_aload_n 0 dX12_gains_44 rfl rfl ?_
      refine r_iconst (v := (-1)) dX12_gains_45 rfl ?_
      obtain ⟨q26, hq26, h⟩ := b1_some h
      refine r_callVi (k := 0) (rest := []) (by omega) (mX12_mostOfAll hq26) sM_0 rfl rfl cb_X12_mostOfAll ml_X12_218 im_X12_mostOfAll se_X12_mostOfAll rfl rfl (Nat.le_of_ble_eq_true rfl) dX12_gains_46 ?_
      refine r_istore (i := 5) [(0, .ref (ad_ G 0)), (1, .int v1), (2, .int v2), (3, .int q23.1), (4, .int x24), (5, .int q26.1)] [1, 2, 3, 4, 5, 0] dX12_gains_49 (by decide) rfl ?_
      refine r_aload_n 0 dX12_gains_51 rfl rfl ?_
      refine r_getC (k := 0) (j := 12) (r := 8) sM_0 rfl fl_X12_39 dX12_gains_52 ?_
      refine r_iload_n 1 dX12_gains_55 rfl rfl ?_
      refine r_iload 4 dX12_gains_56 rfl ?_
      obtain ⟨S27, hS27, h⟩ := b1_some h
      refine r_iastore sM_8 hS27 dX12_gains_58 ?_
      refine r_iload 5 dX12_gains_59 rfl ?_
      refine r_iload_n 3 dX12_gains_61 rfl rfl ?_
      refine r_isub dX12_gains_62 ?_
      obtain rfl := Option.some.inj h
      exact r_ireturn rfl dX12_gains_63 (hp)
    · rw [if_pos c28] at h
      refine r_ldc kc_X12_242 dX12_gains_20 ?_
      obtain rfl := Option.some.inj h
      exact r_ireturn rfl dX12_gains_22 (hp)
theorem mX12_gains {G : Gx} {S : St} {v1 : Int32} {v2 : Int32} {o : (Int32 × St)}  (h : fX12_gains S v1 v2 = some o) : MR_ G shM 5 yX12_gains cX12_gains 6 (some .int) [.ref (ad_ G 0), .int v1, .int v2] S (PI_ o.1 o.2) := MR_of cb_X12_gains (Nat.le_of_ble_eq_true rfl) [(0, .ref (ad_ G 0)), (1, .int v1), (2, .int v2)] rfl (tX12_gains  h ⟨rfl, rfl⟩)
set_option maxRecDepth 100000 in
set_option maxHeartbeats 4000000 in
theorem tX12_least {G : Gx} {post : Option Value → St → Prop} {S : St} {v0 : Int32} {v1 : Int32} {o : Int32}  (h : fX12_least S v0 v1 = some o) (hp : post (some (.int o)) S) : Rn G shM 0 yX12_least cX12_least 2 (some .int) 0 [(0, .int v0), (1, .int v1)] [] S post := by
  unfold fX12_least at h
  refine r_iload_n 0 dX12_least_0 rfl rfl ?_
  refine r_iload_n 1 dX12_least_1 rfl rfl ?_
  refine r_icmp_ge 9 dX12_least_2 (by decide) (fun c21 => ?_) (fun c21 => ?_)
  · rw [if_pos c21] at h
    refine r_iload_n 1 dX12_least_9 rfl rfl ?_
    obtain rfl := Option.some.inj h
    exact r_ireturn rfl dX12_least_10 (hp)
  · rw [if_neg c21] at h
    refine r_iload_n 0 dX12_least_5 rfl rfl ?_
    refine r_goto 10 dX12_least_6 (by decide) ?_
    obtain rfl := Option.some.inj h
    exact r_ireturn rfl dX12_least_10 (hp)
theorem mX12_least {G : Gx} {S : St} {v0 : Int32} {v1 : Int32} {o : Int32}  (h : fX12_least S v0 v1 = some o) : MR_ G shM 0 yX12_least cX12_least 2 (some .int) [.int v0, .int v1] S (PI_ o S) := MR_of cb_X12_least (Nat.le_of_ble_eq_true rfl) [(0, .int v0), (1, .int v1)] rfl (tX12_least  h ⟨rfl, rfl⟩)
set_option maxRecDepth 100000 in
set_option maxHeartbeats 4000000 in
theorem tX12_greatest {G : Gx} {post : Option Value → St → Prop} {S : St} {v0 : Int32} {v1 : Int32} {o : Int32}  (h : fX12_greatest S v0 v1 = some o) (hp : post (some (.int o)) S) : Rn G shM 0 yX12_greatest cX12_greatest 2 (some .int) 0 [(0, .int v0), (1, .int v1)] [] S post := by
  unfold fX12_greatest at h
  refine r_iload_n 0 dX12_greatest_0 rfl rfl ?_
  refine r_iload_n 1 dX12_greatest_1 rfl rfl ?_
  refine r_icmp_le 9 dX12_greatest_2 (by decide) (fun c21 => ?_) (fun c21 => ?_)
  · rw [if_pos c21] at h
    refine r_iload_n 1 dX12_greatest_9 rfl rfl ?_
    obtain rfl := Option.some.inj h
    exact r_ireturn rfl dX12_greatest_10 (hp)
  · rw [if_neg c21] at h
    refine r_iload_n 0 dX12_greatest_5 rfl rfl ?_
    refine r_goto 10 dX12_greatest_6 (by decide) ?_
    obtain rfl := Option.some.inj h
    exact r_ireturn rfl dX12_greatest_10 (hp)
theorem mX12_greatest {G : Gx} {S : St} {v0 : Int32} {v1 : Int32} {o : Int32}  (h : fX12_greatest S v0 v1 = some o) : MR_ G shM 0 yX12_greatest cX12_greatest 2 (some .int) [.int v0, .int v1] S (PI_ o S) := MR_of cb_X12_greatest (Nat.le_of_ble_eq_true rfl) [(0, .int v0), (1, .int v1)] rfl (tX12_greatest  h ⟨rfl, rfl⟩)
set_option maxRecDepth 100000 in
set_option maxHeartbeats 4000000 in
theorem tX12_pipe {G : Gx} {post : Option Value → St → Prop} {S : St} {v1 : Int32} {v2 : Int32} {v3 : Int32} {v4 : Int32} {v5 : Int32} {v6 : Int32} {v7 : Int32} {o : (Int32 × St)}  (h : fX12_pipe S v1 v2 v3 v4 v5 v6 v7 = some o) (hp : post (some (.int o.1)) o.2) : Rn G shM 1 yX12_pipe cX12_pipe 10 (some .int) 0 [(0, .ref (ad_ G 0)), (1, .int v1), (2, .int v2), (3, .int v3), (4, .int v4), (5, .int v5), (6, .int v6), (7, .int v7)] [] S post := by
  unfold fX12_pipe at h
  refine r_iload_n 1 dX12_pipe_0 rfl rfl ?_
  refine r_i2l dX12_pipe_1 ?_
  refine r_lconst (v := 0) dX12_pipe_2 rfl ?_
  refine r_ldc2 kl_X12_222 dX12_pipe_3 ?_
  obtain ⟨x21, hx21, h⟩ := b1_some h
  refine r_callSi (rest := []) (by omega) (mX12_in hx21) cb_X12_in ml_X12_145 sm_X12_in rfl rfl (Nat.le_of_ble_eq_true rfl) dX12_pipe_6 ?_
  refine r_if_eq 90 dX12_pipe_9 (by decide) (fun c48 => ?_) (fun c48 => ?_)
  · rw [if_pos c48] at h
    refine r_iconst (v := (-1)) dX12_pipe_90 rfl ?_
    obtain rfl := Option.some.inj h
    exact r_ireturn rfl dX12_pipe_91 (hp)
  · rw [if_neg c48] at h
    refine r_iload_n 2 dX12_pipe_12 rfl rfl ?_
    refine r_i2l dX12_pipe_13 ?_
    refine r_lconst (v := 0) dX12_pipe_14 rfl ?_
    refine r_ldc2 kl_X12_222 dX12_pipe_15 ?_
    obtain ⟨x22, hx22, h⟩ := b1_some h
    refine r_callSi (rest := []) (by omega) (mX12_in hx22) cb_X12_in ml_X12_145 sm_X12_in rfl rfl (Nat.le_of_ble_eq_true rfl) dX12_pipe_18 ?_
    refine r_if_eq 90 dX12_pipe_21 (by decide) (fun c47 => ?_) (fun c47 => ?_)
    · rw [if_pos c47] at h
      refine r_iconst (v := (-1)) dX12_pipe_90 rfl ?_
      obtain rfl := Option.some.inj h
      exact r_ireturn rfl dX12_pipe_91 (hp)
    · rw [if_neg c47] at h
      refine r_iload_n 3 dX12_pipe_24 rfl rfl ?_
      refine r_i2l dX12_pipe_25 ?_
      refine r_lconst (v := 0) dX12_pipe_26 rfl ?_
      refine r_ldc2 kl_X12_222 dX12_pipe_27 ?_
      obtain ⟨x23, hx23, h⟩ := b1_some h
      refine r_callSi (rest := []) (by omega) (mX12_in hx23) cb_X12_in ml_X12_145 sm_X12_in rfl rfl (Nat.le_of_ble_eq_true rfl) dX12_pipe_30 ?_
      refine r_if_eq 90 dX12_pipe_33 (by decide) (fun c46 => ?_) (fun c46 => ?_)
      · rw [if_pos c46] at h
        refine r_iconst (v := (-1)) dX12_pipe_90 rfl ?_
        obtain rfl := Option.some.inj h
        exact r_ireturn rfl dX12_pipe_91 (hp)
      · rw [if_neg c46] at h
        refine r_iload 4 dX12_pipe_36 rfl ?_
        refine r_i2l dX12_pipe_38 ?_
        refine r_lconst (v := 0) dX12_pipe_39 rfl ?_
        refine r_ldc2 kl_X12_222 dX12_pipe_40 ?_
        obtain ⟨x24, hx24, h⟩ := b1_some h
        refine r_callSi (rest := []) (by omega) (mX12_in hx24) cb_X12_in ml_X12_145 sm_X12_in rfl rfl (Nat.le_of_ble_eq_true rfl) dX12_pipe_43 ?_
        refine r_if_eq 90 dX12_pipe_46 (by decide) (fun c45 => ?_) (fun c45 => ?_)
        · rw [if_pos c45] at h
          refine r_iconst (v := (-1)) dX12_pipe_90 rfl ?_
          obtain rfl := Option.some.inj h
          exact r_ireturn rfl dX12_pipe_91 (hp)
        · rw [if_neg c45] at h
          refine r_iload 5 dX12_pipe_49 rfl ?_
          refine r_i2l dX12_pipe_51 ?_
          refine r_lconst (v := 0) dX12_pipe_52 rfl ?_
          refine r_ldc2 kl_X12_243 dX12_pipe_53 ?_
          obtain ⟨x25, hx25, h⟩ := b1_some h
          refine r_callSi (rest := []) (by omega) (mX12_in hx25) cb_X12_in ml_X12_145 sm_X12_in rfl rfl (Nat.le_of_ble_eq_true rfl) dX12_pipe_56 ?_
          refine r_if_eq 90 dX12_pipe_59 (by decide) (fun c44 => ?_) (fun c44 => ?_)
          · rw [if_pos c44] at h
            refine r_iconst (v := (-1)) dX12_pipe_90 rfl ?_
            obtain rfl := Option.some.inj h
            exact r_ireturn rfl dX12_pipe_91 (hp)
          · rw [if_neg c44] at h
            refine r_iload 6 dX12_pipe_62 rfl ?_
            refine r_i2l dX12_pipe_64 ?_
            refine r_ldc2 kl_X12_245 dX12_pipe_65 ?_
            refine r_ldc2 kl_X12_247 dX12_pipe_68 ?_
            obtain ⟨x26, hx26, h⟩ := b1_some h
            refine r_callSi (rest := []) (by omega) (mX12_in hx26) cb_X12_in ml_X12_145 sm_X12_in rfl rfl (Nat.le_of_ble_eq_true rfl) dX12_pipe_71 ?_
            refine r_if_eq 90 dX12_pipe_74 (by decide) (fun c43 => ?_) (fun c43 => ?_)
            · rw [if_pos c43] at h
              refine r_iconst (v := (-1)) dX12_pipe_90 rfl ?_
              obtain rfl := Option.some.inj h
              exact r_ireturn rfl dX12_pipe_91 (hp)
            · rw [if_neg c43] at h
              refine r_iload 7 dX12_pipe_77 rfl ?_
              refine r_i2l dX12_pipe_79 ?_
              refine r_lconst (v := 0) dX12_pipe_80 rfl ?_
              refine r_ldc2 kl_X12_249 dX12_pipe_81 ?_
              obtain ⟨x27, hx27, h⟩ := b1_some h
              refine r_callSi (rest := []) (by omega) (mX12_in hx27) cb_X12_in ml_X12_145 sm_X12_in rfl rfl (Nat.le_of_ble_eq_true rfl) dX12_pipe_84 ?_
              refine r_if_ne 92 dX12_pipe_87 (by decide) (fun c42 => ?_) (fun c42 => ?_)
              · rw [if_neg c42] at h
                refine r_aload_n 0 dX12_pipe_92 rfl rfl ?_
                refine r_getI (k := 0) (j := 28) sM_0 rfl fl_X12_251 dX12_pipe_93 ?_
                refine r_bipush (v := 12) dX12_pipe_96 rfl ?_
                refine r_icmp_ne 104 dX12_pipe_98 (by decide) (fun c41 => ?_) (fun c41 => ?_)
                · rw [if_neg c41] at h
                  refine r_iload_n 2 dX12_pipe_104 rfl rfl ?_
                  refine r_iload_n 3 dX12_pipe_105 rfl rfl ?_
                  refine r_iload 4 dX12_pipe_106 rfl ?_
                  obtain ⟨x28, hx28, h⟩ := b1_some h
                  refine r_callSi (rest := [.int v2]) (by omega) (mX12_least hx28) cb_X12_least ml_X12_254 sm_X12_least rfl rfl (Nat.le_of_ble_eq_true rfl) dX12_pipe_108 ?_
                  obtain ⟨x29, hx29, h⟩ := b1_some h
                  refine r_callSi (rest := []) (by omega) (mX12_least hx29) cb_X12_least ml_X12_254 sm_X12_least rfl rfl (Nat.le_of_ble_eq_true rfl) dX12_pipe_111 ?_
                  refine r_istore (i := 8) [(0, .ref (ad_ G 0)), (1, .int v1), (2, .int v2), (3, .int v3), (4, .int v4), (5, .int v5), (6, .int v6), (7, .int v7), (8, .int x29)] [1, 2, 3, 4, 5, 6, 7, 8, 0] dX12_pipe_114 (by decide) rfl ?_
                  refine r_iload_n 2 dX12_pipe_116 rfl rfl ?_
                  refine r_iload_n 3 dX12_pipe_117 rfl rfl ?_
                  refine r_iload 4 dX12_pipe_118 rfl ?_
                  obtain ⟨x30, hx30, h⟩ := b1_some h
                  refine r_callSi (rest := [.int v2]) (by omega) (mX12_greatest hx30) cb_X12_greatest ml_X12_258 sm_X12_greatest rfl rfl (Nat.le_of_ble_eq_true rfl) dX12_pipe_120 ?_
                  obtain ⟨x31, hx31, h⟩ := b1_some h
                  refine r_callSi (rest := []) (by omega) (mX12_greatest hx31) cb_X12_greatest ml_X12_258 sm_X12_greatest rfl rfl (Nat.le_of_ble_eq_true rfl) dX12_pipe_123 ?_
                  refine r_istore (i := 9) [(0, .ref (ad_ G 0)), (1, .int v1), (2, .int v2), (3, .int v3), (4, .int v4), (5, .int v5), (6, .int v6), (7, .int v7), (8, .int x29), (9, .int x31)] [1, 2, 3, 4, 5, 6, 7, 8, 9, 0] dX12_pipe_126 (by decide) rfl ?_
                  refine r_aload_n 0 dX12_pipe_128 rfl rfl ?_
                  refine r_getC (k := 0) (j := 29) (r := 22) sM_0 rfl fl_X12_82 dX12_pipe_129 ?_
                  refine r_aload_n 0 dX12_pipe_132 rfl rfl ?_
                  refine r_getI (k := 0) (j := 28) sM_0 rfl fl_X12_251 dX12_pipe_133 ?_
                  refine r_iload_n 1 dX12_pipe_136 rfl rfl ?_
                  obtain ⟨S32, hS32, h⟩ := b1_some h
                  refine r_iastore sM_22 hS32 dX12_pipe_137 ?_
                  refine r_aload_n 0 dX12_pipe_138 rfl rfl ?_
                  refine r_getC (k := 0) (j := 30) (r := 23) sM_0 rfl fl_X12_85 dX12_pipe_139 ?_
                  refine r_aload_n 0 dX12_pipe_142 rfl rfl ?_
                  refine r_getI (k := 0) (j := 28) sM_0 rfl fl_X12_251 dX12_pipe_143 ?_
                  refine r_iload_n 2 dX12_pipe_146 rfl rfl ?_
                  refine r_iload_n 3 dX12_pipe_147 rfl rfl ?_
                  refine r_iadd dX12_pipe_148 ?_
                  refine r_iload 4 dX12_pipe_149 rfl ?_
                  refine r_iadd dX12_pipe_151 ?_
                  refine r_iload 8 dX12_pipe_152 rfl ?_
                  refine r_isub dX12_pipe_154 ?_
                  refine r_iload 9 dX12_pipe_155 rfl ?_
                  refine r_isub dX12_pipe_157 ?_
                  obtain ⟨S33, hS33, h⟩ := b1_some h
                  refine r_iastore sM_23 hS33 dX12_pipe_158 ?_
                  refine r_aload_n 0 dX12_pipe_159 rfl rfl ?_
                  refine r_getC (k := 0) (j := 31) (r := 24) sM_0 rfl fl_X12_88 dX12_pipe_160 ?_
                  refine r_aload_n 0 dX12_pipe_163 rfl rfl ?_
                  refine r_getI (k := 0) (j := 28) sM_0 rfl fl_X12_251 dX12_pipe_164 ?_
                  refine r_iload 9 dX12_pipe_167 rfl ?_
                  refine r_iload 8 dX12_pipe_169 rfl ?_
                  refine r_isub dX12_pipe_171 ?_
                  refine r_iconst (v := 1) dX12_pipe_172 rfl ?_
                  obtain ⟨w34, hw34, h⟩ := b1_some h
                  have hJ : Rn G shM 1 yX12_pipe cX12_pipe 10 (some .int) 181 [(0, .ref (ad_ G 0)), (5, .int v5), (6, .int v6), (7, .int v7)] [.int w34, .int (gI_ S33 0 28), .ref (ad_ G 24)] S33 post := by
                    obtain ⟨S35, hS35, h⟩ := b1_some h
                    refine r_zastore sM_24 hS35 dX12_pipe_181 ?_
                    refine r_aload_n 0 dX12_pipe_182 rfl rfl ?_
                    refine r_getC (k := 0) (j := 32) (r := 25) sM_0 rfl fl_X12_91 dX12_pipe_183 ?_
                    refine r_aload_n 0 dX12_pipe_186 rfl rfl ?_
                    refine r_getI (k := 0) (j := 28) sM_0 rfl fl_X12_251 dX12_pipe_187 ?_
                    refine r_iload 1 dX12_pipe_190 rfl ?_
                    obtain ⟨S36, hS36, h⟩ := b1_some h
                    refine r_iastore sM_25 hS36 dX12_pipe_192 ?_
                    refine r_aload_n 0 dX12_pipe_193 rfl rfl ?_
                    refine r_getC (k := 0) (j := 33) (r := 26) sM_0 rfl fl_X12_94 dX12_pipe_194 ?_
                    refine r_aload_n 0 dX12_pipe_197 rfl rfl ?_
                    refine r_getI (k := 0) (j := 28) sM_0 rfl fl_X12_251 dX12_pipe_198 ?_
                    refine r_iload 2 dX12_pipe_201 rfl ?_
                    obtain ⟨S37, hS37, h⟩ := b1_some h
                    refine r_iastore sM_26 hS37 dX12_pipe_203 ?_
                    refine r_aload_n 0 dX12_pipe_204 rfl rfl ?_
                    refine r_getC (k := 0) (j := 34) (r := 27) sM_0 rfl fl_X12_97 dX12_pipe_205 ?_
                    refine r_aload_n 0 dX12_pipe_208 rfl rfl ?_
                    refine r_getI (k := 0) (j := 28) sM_0 rfl fl_X12_251 dX12_pipe_209 ?_
                    refine r_iload 3 dX12_pipe_212 rfl ?_
                    obtain ⟨S38, hS38, h⟩ := b1_some h
                    refine r_iastore sM_27 hS38 dX12_pipe_214 ?_
                    refine r_aload_n 0 dX12_pipe_215 rfl rfl ?_
                    refine r_dup dX12_pipe_216 rfl ?_
                    refine r_getI (k := 0) (j := 28) sM_0 rfl fl_X12_251 dX12_pipe_217 ?_
                    refine r_iconst (v := 1) dX12_pipe_220 rfl ?_
                    refine r_iadd dX12_pipe_221 ?_
                    obtain ⟨S39, hS39, h⟩ := b1_some h
                    refine r_setI (k := 0) (j := 28) sM_0 rfl pf_X12_251 hS39 dX12_pipe_222 ?_
                    refine r_aload_n 0 dX12_pipe_225 rfl rfl ?_
                    refine r_getI (k := 0) (j := 28) sM_0 rfl fl_X12_251 dX12_pipe_226 ?_
                    refine r_iconst (v := 1) dX12_pipe_229 rfl ?_
                    refine r_isub dX12_pipe_230 ?_
                    obtain rfl := Option.some.inj h
                    exact r_ireturn rfl dX12_pipe_231 (hp)
                  clear h
                  replace h := hw34
                  refine r_icmp_gt 180 dX12_pipe_173 (by decide) (fun c40 => ?_) (fun c40 => ?_)
                  · rw [if_pos c40] at h
                    refine r_iconst (v := 0) dX12_pipe_180 rfl ?_
                    refine r_sub [(0, .ref (ad_ G 0)), (5, .int v5), (6, .int v6), (7, .int v7)] [0, 5, 6, 7] rfl ?_
                    obtain rfl := Option.some.inj h
                    exact hJ
                  · rw [if_neg c40] at h
                    refine r_iconst (v := 1) dX12_pipe_176 rfl ?_
                    refine r_goto 181 dX12_pipe_177 (by decide) ?_
                    refine r_sub [(0, .ref (ad_ G 0)), (5, .int v5), (6, .int v6), (7, .int v7)] [0, 5, 6, 7] rfl ?_
                    obtain rfl := Option.some.inj h
                    exact hJ
                · rw [if_pos c41] at h
                  refine r_bipush (v := (-3)) dX12_pipe_101 rfl ?_
                  obtain rfl := Option.some.inj h
                  exact r_ireturn rfl dX12_pipe_103 (hp)
              · rw [if_pos c42] at h
                refine r_iconst (v := (-1)) dX12_pipe_90 rfl ?_
                obtain rfl := Option.some.inj h
                exact r_ireturn rfl dX12_pipe_91 (hp)
theorem mX12_pipe {G : Gx} {S : St} {v1 : Int32} {v2 : Int32} {v3 : Int32} {v4 : Int32} {v5 : Int32} {v6 : Int32} {v7 : Int32} {o : (Int32 × St)}  (h : fX12_pipe S v1 v2 v3 v4 v5 v6 v7 = some o) : MR_ G shM 1 yX12_pipe cX12_pipe 10 (some .int) [.ref (ad_ G 0), .int v1, .int v2, .int v3, .int v4, .int v5, .int v6, .int v7] S (PI_ o.1 o.2) := MR_of cb_X12_pipe (Nat.le_of_ble_eq_true rfl) [(0, .ref (ad_ G 0)), (1, .int v1), (2, .int v2), (3, .int v3), (4, .int v4), (5, .int v5), (6, .int v6), (7, .int v7)] rfl (tX12_pipe  h ⟨rfl, rfl⟩)
