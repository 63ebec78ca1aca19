set_option maxRecDepth 100000 in
set_option maxHeartbeats 4000000 in
theorem tX2_readSecond {G : Gx} {post : Option Value → St → Prop} {k1 : Nat} {S : St} {o : (Int32 × St)} (hk1 : IsLw k1) (h : fX2_readSecond k1 S = some o) (hp : post (some (.int o.1)) o.2) : Rn G shX 2 yX2_readSecond cX2_readSecond 3 (some .boolean) 0 [(0, .ref (ad_ G 61)), (1, .ref (ad_ G k1))] [] S post := by
  unfold fX2_readSecond at h
  refine r_aload_n 0 dX2_readSecond_0 rfl rfl ?_
  refine r_iconst (v := 2) dX2_readSecond_1 rfl ?_
  obtain ⟨q21, hq21, h⟩ := b1_some h
  refine r_callVi (k := 61) (rest := []) (by omega) (mX2_expect hq21) sX_61 rfl rfl cb_X2_expect ml_X2_70 im_X2_expect se_X2_expect rfl rfl (Nat.le_of_ble_eq_true rfl) dX2_readSecond_2 ?_
  refine r_if_ne 10 dX2_readSecond_5 (by decide) (fun c33 => ?_) (fun c33 => ?_)
  · rw [if_neg c33] at h
    refine r_aload_n 0 dX2_readSecond_10 rfl rfl ?_
    refine r_getI (k := 61) (j := 3) sX_61 rfl fl_X2_20 dX2_readSecond_11 ?_
    refine r_istore_n (i := 2) [(0, .ref (ad_ G 61)), (1, .ref (ad_ G k1)), (2, .int (gI_ q21.2 61 3))] [1, 2, 0] dX2_readSecond_14 rfl (by decide) rfl ?_
    refine r_aload_n 1 dX2_readSecond_15 rfl rfl ?_
    refine r_iload_n 2 dX2_readSecond_16 rfl rfl ?_
    obtain ⟨x22, hx22, h⟩ := b1_some h
    refine r_callVi (k := k1) (rest := []) (by omega) (mX3_hasSecond hk1 hx22) hk1.1 rfl rfl cb_X3_hasSecond ml_X2_105 im_X3_hasSecond se_X3_hasSecond rfl rfl (Nat.le_of_ble_eq_true rfl) dX2_readSecond_17 ?_
    refine r_if_eq 29 dX2_readSecond_20 (by decide) (fun c32 => ?_) (fun c32 => ?_)
    · rw [if_pos c32] at h
      refine r_aload_n 0 dX2_readSecond_29 rfl rfl ?_
      refine r_iconst (v := 2) dX2_readSecond_30 rfl ?_
      obtain ⟨q23, hq23, h⟩ := b1_some h
      refine r_callVi (k := 61) (rest := []) (by omega) (mX2_expect hq23) sX_61 rfl rfl cb_X2_expect ml_X2_70 im_X2_expect se_X2_expect rfl rfl (Nat.le_of_ble_eq_true rfl) dX2_readSecond_31 ?_
      refine r_if_ne 39 dX2_readSecond_34 (by decide) (fun c29 => ?_) (fun c29 => ?_)
      · rw [if_neg c29] at h
        refine r_aload_n 1 dX2_readSecond_39 rfl rfl ?_
        refine r_aload_n 0 dX2_readSecond_40 rfl rfl ?_
        refine r_getI (k := 61) (j := 3) sX_61 rfl fl_X2_20 dX2_readSecond_41 ?_
        refine r_iload_n 2 dX2_readSecond_44 rfl rfl ?_
        obtain ⟨x24, hx24, h⟩ := b1_some h
        refine r_callVi (k := k1) (rest := []) (by omega) (mX3_leadsTo hk1 hx24) hk1.1 rfl rfl cb_X3_leadsTo ml_X2_108 im_X3_leadsTo se_X3_leadsTo rfl rfl (Nat.le_of_ble_eq_true rfl) dX2_readSecond_45 ?_
        refine r_if_eq 57 dX2_readSecond_48 (by decide) (fun c28 => ?_) (fun c28 => ?_)
        · rw [if_pos c28] at h
          refine r_aload_n 1 dX2_readSecond_57 rfl rfl ?_
          refine r_getC (k := k1) (j := 4) (r := k1 + 5) hk1.1 rfl fl_X2_111 dX2_readSecond_58 ?_
          refine r_iload_n 2 dX2_readSecond_61 rfl rfl ?_
          refine r_aload_n 0 dX2_readSecond_62 rfl rfl ?_
          refine r_getI (k := 61) (j := 3) sX_61 rfl fl_X2_20 dX2_readSecond_63 ?_
          obtain ⟨S25, hS25, h⟩ := b1_some h
          refine r_iastore hk1.2.2.2.2.2 hS25 dX2_readSecond_66 ?_
          refine r_iconst (v := 1) dX2_readSecond_67 rfl ?_
          obtain rfl := Option.some.inj h
          exact r_zreturn rfl (by decide) dX2_readSecond_68 (hp)
        · rw [if_neg c28] at h
          refine r_aload_n 0 dX2_readSecond_51 rfl rfl ?_
          refine r_iconst (v := 5) dX2_readSecond_52 rfl ?_
          obtain ⟨q26, hq26, h⟩ := b1_some h
          refine r_callVi (k := 61) (rest := []) (by omega) (mX2_fail hq26) sX_61 rfl rfl cb_X2_fail ml_X2_66 im_X2_fail se_X2_fail rfl rfl (Nat.le_of_ble_eq_true rfl) dX2_readSecond_53 ?_
          obtain ⟨z27, hz27, h⟩ := b1_some h
          obtain ⟨ez27, nz27⟩ := bz_some hz27
          rw [ez27] at h
          obtain rfl := Option.some.inj h
          exact r_zreturn rfl nz27 dX2_readSecond_56 (hp)
      · rw [if_pos c29] at h
        refine r_iconst (v := 0) dX2_readSecond_37 rfl ?_
        obtain rfl := Option.some.inj h
        exact r_zreturn rfl (by decide) dX2_readSecond_38 (hp)
    · rw [if_neg c32] at h
      refine r_aload_n 0 dX2_readSecond_23 rfl rfl ?_
      refine r_iconst (v := 4) dX2_readSecond_24 rfl ?_
      obtain ⟨q30, hq30, h⟩ := b1_some h
      refine r_callVi (k := 61) (rest := []) (by omega) (mX2_fail hq30) sX_61 rfl rfl cb_X2_fail ml_X2_66 im_X2_fail se_X2_fail rfl rfl (Nat.le_of_ble_eq_true rfl) dX2_readSecond_25 ?_
      obtain ⟨z31, hz31, h⟩ := b1_some h
      obtain ⟨ez31, nz31⟩ := bz_some hz31
      rw [ez31] at h
      obtain rfl := Option.some.inj h
      exact r_zreturn rfl nz31 dX2_readSecond_28 (hp)
  · rw [if_pos c33] at h
    refine r_iconst (v := 0) dX2_readSecond_8 rfl ?_
    obtain rfl := Option.some.inj h
    exact r_zreturn rfl (by decide) dX2_readSecond_9 (hp)
theorem mX2_readSecond {G : Gx} {k1 : Nat} {S : St} {o : (Int32 × St)} (hk1 : IsLw k1) (h : fX2_readSecond k1 S = some o) : MR_ G shX 2 yX2_readSecond cX2_readSecond 3 (some .boolean) [.ref (ad_ G 61), .ref (ad_ G k1)] S (PI_ o.1 o.2) := MR_of cb_X2_readSecond (Nat.le_of_ble_eq_true rfl) [(0, .ref (ad_ G 61)), (1, .ref (ad_ G k1))] rfl (tX2_readSecond hk1 h ⟨rfl, rfl⟩)
set_option maxRecDepth 100000 in
set_option maxHeartbeats 4000000 in
theorem tX2_readLaw {G : Gx} {post : Option Value → St → Prop} {k1 : Nat} {S : St} {o : (Int32 × St)} (hk1 : IsLw k1) (h : fX2_readLaw k1 S = some o) (hp : post (some (.int o.1)) o.2) : Rn G shX 4 yX2_readLaw cX2_readLaw 3 (some .boolean) 0 [(0, .ref (ad_ G 61)), (1, .ref (ad_ G k1))] [] S post := by
  unfold fX2_readLaw at h
  refine r_aload_n 0 dX2_readLaw_0 rfl rfl ?_
  obtain ⟨S21, hS21, h⟩ := b1_some h
  refine r_callVv (k := 61) (rest := []) (by omega) (mX2_advance hS21) sX_61 rfl rfl cb_X2_advance ml_X2_48 im_X2_advance se_X2_advance rfl rfl (Nat.le_of_ble_eq_true rfl) dX2_readLaw_1 ?_
  refine r_aload_n 0 dX2_readLaw_4 rfl rfl ?_
  refine r_getI (k := 61) (j := 2) sX_61 rfl fl_X2_17 dX2_readLaw_5 ?_
  refine r_if_ne 13 dX2_readLaw_8 (by decide) (fun c81 => ?_) (fun c81 => ?_)
  · rw [if_neg c81] at h
    refine r_aload_n 0 dX2_readLaw_13 rfl rfl ?_
    refine r_getI (k := 61) (j := 2) sX_61 rfl fl_X2_17 dX2_readLaw_14 ?_
    by_cases c27 : gI_ S21 61 2 = 1
    · rw [if_pos c27] at h
      refine r_tableIn 113 dX2_readLaw_17 c27 (by decide) (by decide) rfl (by decide) ?_
      refine r_aload_n 0 dX2_readLaw_113 rfl rfl ?_
      refine r_iconst (v := 1) dX2_readLaw_114 rfl ?_
      obtain ⟨q22, hq22, h⟩ := b1_some h
      refine r_callVi (k := 61) (rest := []) (by omega) (mX2_fail hq22) sX_61 rfl rfl cb_X2_fail ml_X2_66 im_X2_fail se_X2_fail rfl rfl (Nat.le_of_ble_eq_true rfl) dX2_readLaw_115 ?_
      refine r_istore_n (i := 2) [(0, .ref (ad_ G 61)), (1, .ref (ad_ G k1)), (2, .int q22.1)] [1, 2, 0] dX2_readLaw_118 rfl (by decide) rfl ?_
      refine r_goto 128 dX2_readLaw_119 (by decide) ?_
      refine r_iload_n 2 dX2_readLaw_128 rfl rfl ?_
      refine r_if_eq 140 dX2_readLaw_129 (by decide) (fun c26 => ?_) (fun c26 => ?_)
      · rw [if_pos c26] at h
        refine r_iconst (v := 0) dX2_readLaw_140 rfl ?_
        obtain rfl := Option.some.inj h
        exact r_zreturn rfl (by decide) dX2_readLaw_141 (hp)
      · rw [if_neg c26] at h
        refine r_aload_n 0 dX2_readLaw_132 rfl rfl ?_
        refine r_iconst (v := 4) dX2_readLaw_133 rfl ?_
        obtain ⟨q23, hq23, h⟩ := b1_some h
        refine r_callVi (k := 61) (rest := []) (by omega) (mX2_expect hq23) sX_61 rfl rfl cb_X2_expect ml_X2_70 im_X2_expect se_X2_expect rfl rfl (Nat.le_of_ble_eq_true rfl) dX2_readLaw_134 ?_
        refine r_if_ne 142 dX2_readLaw_137 (by decide) (fun c25 => ?_) (fun c25 => ?_)
        · rw [if_neg c25] at h
          refine r_aload_n 1 dX2_readLaw_142 rfl rfl ?_
          refine r_dup dX2_readLaw_143 rfl ?_
          refine r_getI (k := k1) (j := 6) hk1.1 rfl fl_X2_73 dX2_readLaw_144 ?_
          refine r_iconst (v := 1) dX2_readLaw_147 rfl ?_
          refine r_iadd dX2_readLaw_148 ?_
          obtain ⟨S24, hS24, h⟩ := b1_some h
          refine r_setI (k := k1) (j := 6) hk1.1 rfl pf_X2_73 hS24 dX2_readLaw_149 ?_
          refine r_iconst (v := 1) dX2_readLaw_152 rfl ?_
          obtain rfl := Option.some.inj h
          exact r_zreturn rfl (by decide) dX2_readLaw_153 (hp)
        · rw [if_pos c25] at h
          refine r_iconst (v := 0) dX2_readLaw_140 rfl ?_
          obtain rfl := Option.some.inj h
          exact r_zreturn rfl (by decide) dX2_readLaw_141 (hp)
    · rw [if_neg c27] at h
      by_cases c33 : gI_ S21 61 2 = 2
      · rw [if_pos c33] at h
        refine r_tableIn 122 dX2_readLaw_17 c33 (by decide) (by decide) rfl (by decide) ?_
        refine r_aload_n 0 dX2_readLaw_122 rfl rfl ?_
        refine r_iconst (v := 2) dX2_readLaw_123 rfl ?_
        obtain ⟨q28, hq28, h⟩ := b1_some h
        refine r_callVi (k := 61) (rest := []) (by omega) (mX2_fail hq28) sX_61 rfl rfl cb_X2_fail ml_X2_66 im_X2_fail se_X2_fail rfl rfl (Nat.le_of_ble_eq_true rfl) dX2_readLaw_124 ?_
        refine r_istore_n (i := 2) [(0, .ref (ad_ G 61)), (1, .ref (ad_ G k1)), (2, .int q28.1)] [1, 2, 0] dX2_readLaw_127 rfl (by decide) rfl ?_
        refine r_iload_n 2 dX2_readLaw_128 rfl rfl ?_
        refine r_if_eq 140 dX2_readLaw_129 (by decide) (fun c32 => ?_) (fun c32 => ?_)
        · rw [if_pos c32] at h
          refine r_iconst (v := 0) dX2_readLaw_140 rfl ?_
          obtain rfl := Option.some.inj h
          exact r_zreturn rfl (by decide) dX2_readLaw_141 (hp)
        · rw [if_neg c32] at h
          refine r_aload_n 0 dX2_readLaw_132 rfl rfl ?_
          refine r_iconst (v := 4) dX2_readLaw_133 rfl ?_
          obtain ⟨q29, hq29, h⟩ := b1_some h
          refine r_callVi (k := 61) (rest := []) (by omega) (mX2_expect hq29) sX_61 rfl rfl cb_X2_expect ml_X2_70 im_X2_expect se_X2_expect rfl rfl (Nat.le_of_ble_eq_true rfl) dX2_readLaw_134 ?_
          refine r_if_ne 142 dX2_readLaw_137 (by decide) (fun c31 => ?_) (fun c31 => ?_)
          · rw [if_neg c31] at h
            refine r_aload_n 1 dX2_readLaw_142 rfl rfl ?_
            refine r_dup dX2_readLaw_143 rfl ?_
            refine r_getI (k := k1) (j := 6) hk1.1 rfl fl_X2_73 dX2_readLaw_144 ?_
            refine r_iconst (v := 1) dX2_readLaw_147 rfl ?_
            refine r_iadd dX2_readLaw_148 ?_
            obtain ⟨S30, hS30, h⟩ := b1_some h
            refine r_setI (k := k1) (j := 6) hk1.1 rfl pf_X2_73 hS30 dX2_readLaw_149 ?_
            refine r_iconst (v := 1) dX2_readLaw_152 rfl ?_
            obtain rfl := Option.some.inj h
            exact r_zreturn rfl (by decide) dX2_readLaw_153 (hp)
          · rw [if_pos c31] at h
            refine r_iconst (v := 0) dX2_readLaw_140 rfl ?_
            obtain rfl := Option.some.inj h
            exact r_zreturn rfl (by decide) dX2_readLaw_141 (hp)
      · rw [if_neg c33] at h
        by_cases c39 : gI_ S21 61 2 = 3
        · rw [if_pos c39] at h
          refine r_tableIn 122 dX2_readLaw_17 c39 (by decide) (by decide) rfl (by decide) ?_
          refine r_aload_n 0 dX2_readLaw_122 rfl rfl ?_
          refine r_iconst (v := 2) dX2_readLaw_123 rfl ?_
          obtain ⟨q34, hq34, h⟩ := b1_some h
          refine r_callVi (k := 61) (rest := []) (by omega) (mX2_fail hq34) sX_61 rfl rfl cb_X2_fail ml_X2_66 im_X2_fail se_X2_fail rfl rfl (Nat.le_of_ble_eq_true rfl) dX2_readLaw_124 ?_
          refine r_istore_n (i := 2) [(0, .ref (ad_ G 61)), (1, .ref (ad_ G k1)), (2, .int q34.1)] [1, 2, 0] dX2_readLaw_127 rfl (by decide) rfl ?_
          refine r_iload_n 2 dX2_readLaw_128 rfl rfl ?_
          refine r_if_eq 140 dX2_readLaw_129 (by decide) (fun c38 => ?_) (fun c38 => ?_)
          · rw [if_pos c38] at h
            refine r_iconst (v := 0) dX2_readLaw_140 rfl ?_
            obtain rfl := Option.some.inj h
            exact r_zreturn rfl (by decide) dX2_readLaw_141 (hp)
          · rw [if_neg c38] at h
            refine r_aload_n 0 dX2_readLaw_132 rfl rfl ?_
            refine r_iconst (v := 4) dX2_readLaw_133 rfl ?_
            obtain ⟨q35, hq35, h⟩ := b1_some h
            refine r_callVi (k := 61) (rest := []) (by omega) (mX2_expect hq35) sX_61 rfl rfl cb_X2_expect ml_X2_70 im_X2_expect se_X2_expect rfl rfl (Nat.le_of_ble_eq_true rfl) dX2_readLaw_134 ?_
            refine r_if_ne 142 dX2_readLaw_137 (by decide) (fun c37 => ?_) (fun c37 => ?_)
            · rw [if_neg c37] at h
              refine r_aload_n 1 dX2_readLaw_142 rfl rfl ?_
              refine r_dup dX2_readLaw_143 rfl ?_
              refine r_getI (k := k1) (j := 6) hk1.1 rfl fl_X2_73 dX2_readLaw_144 ?_
              refine r_iconst (v := 1) dX2_readLaw_147 rfl ?_
              refine r_iadd dX2_readLaw_148 ?_
              obtain ⟨S36, hS36, h⟩ := b1_some h
              refine r_setI (k := k1) (j := 6) hk1.1 rfl pf_X2_73 hS36 dX2_readLaw_149 ?_
              refine r_iconst (v := 1) dX2_readLaw_152 rfl ?_
              obtain rfl := Option.some.inj h
              exact r_zreturn rfl (by decide) dX2_readLaw_153 (hp)
            · rw [if_pos c37] at h
              refine r_iconst (v := 0) dX2_readLaw_140 rfl ?_
              obtain rfl := Option.some.inj h
              exact r_zreturn rfl (by decide) dX2_readLaw_141 (hp)
        · rw [if_neg c39] at h
          by_cases c45 : gI_ S21 61 2 = 4
          · rw [if_pos c45] at h
            refine r_tableIn 122 dX2_readLaw_17 c45 (by decide) (by decide) rfl (by decide) ?_
            refine r_aload_n 0 dX2_readLaw_122 rfl rfl ?_
            refine r_iconst (v := 2) dX2_readLaw_123 rfl ?_
            obtain ⟨q40, hq40, h⟩ := b1_some h
            refine r_callVi (k := 61) (rest := []) (by omega) (mX2_fail hq40) sX_61 rfl rfl cb_X2_fail ml_X2_66 im_X2_fail se_X2_fail rfl rfl (Nat.le_of_ble_eq_true rfl) dX2_readLaw_124 ?_
            refine r_istore_n (i := 2) [(0, .ref (ad_ G 61)), (1, .ref (ad_ G k1)), (2, .int q40.1)] [1, 2, 0] dX2_readLaw_127 rfl (by decide) rfl ?_
            refine r_iload_n 2 dX2_readLaw_128 rfl rfl ?_
            refine r_if_eq 140 dX2_readLaw_129 (by decide) (fun c44 => ?_) (fun c44 => ?_)
            · rw [if_pos c44] at h
              refine r_iconst (v := 0) dX2_readLaw_140 rfl ?_
              obtain rfl := Option.some.inj h
              exact r_zreturn rfl (by decide) dX2_readLaw_141 (hp)
            · rw [if_neg c44] at h
              refine r_aload_n 0 dX2_readLaw_132 rfl rfl ?_
              refine r_iconst (v := 4) dX2_readLaw_133 rfl ?_
              obtain ⟨q41, hq41, h⟩ := b1_some h
              refine r_callVi (k := 61) (rest := []) (by omega) (mX2_expect hq41) sX_61 rfl rfl cb_X2_expect ml_X2_70 im_X2_expect se_X2_expect rfl rfl (Nat.le_of_ble_eq_true rfl) dX2_readLaw_134 ?_
              refine r_if_ne 142 dX2_readLaw_137 (by decide) (fun c43 => ?_) (fun c43 => ?_)
              · rw [if_neg c43] at h
                refine r_aload_n 1 dX2_readLaw_142 rfl rfl ?_
                refine r_dup dX2_readLaw_143 rfl ?_
                refine r_getI (k := k1) (j := 6) hk1.1 rfl fl_X2_73 dX2_readLaw_144 ?_
                refine r_iconst (v := 1) dX2_readLaw_147 rfl ?_
                refine r_iadd dX2_readLaw_148 ?_
                obtain ⟨S42, hS42, h⟩ := b1_some h
                refine r_setI (k := k1) (j := 6) hk1.1 rfl pf_X2_73 hS42 dX2_readLaw_149 ?_
                refine r_iconst (v := 1) dX2_readLaw_152 rfl ?_
                obtain rfl := Option.some.inj h
                exact r_zreturn rfl (by decide) dX2_readLaw_153 (hp)
              · rw [if_pos c43] at h
                refine r_iconst (v := 0) dX2_readLaw_140 rfl ?_
                obtain rfl := Option.some.inj h
                exact r_zreturn rfl (by decide) dX2_readLaw_141 (hp)
          · rw [if_neg c45] at h
            by_cases c51 : gI_ S21 61 2 = 5
            · rw [if_pos c51] at h
              refine r_tableIn 68 dX2_readLaw_17 c51 (by decide) (by decide) rfl (by decide) ?_
              refine r_aload_n 0 dX2_readLaw_68 rfl rfl ?_
              refine r_aload_n 1 dX2_readLaw_69 rfl rfl ?_
              obtain ⟨q46, hq46, h⟩ := b1_some h
              refine r_callVi (k := 61) (rest := []) (by omega) (mX2_readStamp hk1 hq46) sX_61 rfl rfl cb_X2_readStamp ml_X2_51 im_X2_readStamp se_X2_readStamp rfl rfl (Nat.le_of_ble_eq_true rfl) dX2_readLaw_70 ?_
              refine r_istore_n (i := 2) [(0, .ref (ad_ G 61)), (1, .ref (ad_ G k1)), (2, .int q46.1)] [1, 2, 0] dX2_readLaw_73 rfl (by decide) rfl ?_
              refine r_goto 128 dX2_readLaw_74 (by decide) ?_
              refine r_iload_n 2 dX2_readLaw_128 rfl rfl ?_
              refine r_if_eq 140 dX2_readLaw_129 (by decide) (fun c50 => ?_) (fun c50 => ?_)
              · rw [if_pos c50] at h
                refine r_iconst (v := 0) dX2_readLaw_140 rfl ?_
                obtain rfl := Option.some.inj h
                exact r_zreturn rfl (by decide) dX2_readLaw_141 (hp)
              · rw [if_neg c50] at h
                refine r_aload_n 0 dX2_readLaw_132 rfl rfl ?_
                refine r_iconst (v := 4) dX2_readLaw_133 rfl ?_
                obtain ⟨q47, hq47, h⟩ := b1_some h
                refine r_callVi (k := 61) (rest := []) (by omega) (mX2_expect hq47) sX_61 rfl rfl cb_X2_expect ml_X2_70 im_X2_expect se_X2_expect rfl rfl (Nat.le_of_ble_eq_true rfl) dX2_readLaw_134 ?_
                refine r_if_ne 142 dX2_readLaw_137 (by decide) (fun c49 => ?_) (fun c49 => ?_)
                · rw [if_neg c49] at h
                  refine r_aload_n 1 dX2_readLaw_142 rfl rfl ?_
                  refine r_dup dX2_readLaw_143 rfl ?_
                  refine r_getI (k := k1) (j := 6) hk1.1 rfl fl_X2_73 dX2_readLaw_144 ?_
                  refine r_iconst (v := 1) dX2_readLaw_147 rfl ?_
                  refine r_iadd dX2_readLaw_148 ?_
                  obtain ⟨S48, hS48, h⟩ := b1_some h
                  refine r_setI (k := k1) (j := 6) hk1.1 rfl pf_X2_73 hS48 dX2_readLaw_149 ?_
                  refine r_iconst (v := 1) dX2_readLaw_152 rfl ?_
                  obtain rfl := Option.some.inj h
                  exact r_zreturn rfl (by decide) dX2_readLaw_153 (hp)
                · rw [if_pos c49] at h
                  refine r_iconst (v := 0) dX2_readLaw_140 rfl ?_
                  obtain rfl := Option.some.inj h
                  exact r_zreturn rfl (by decide) dX2_readLaw_141 (hp)
            · rw [if_neg c51] at h
              by_cases c57 : gI_ S21 61 2 = 6
              · rw [if_pos c57] at h
                refine r_tableIn 77 dX2_readLaw_17 c57 (by decide) (by decide) rfl (by decide) ?_
                refine r_aload_n 0 dX2_readLaw_77 rfl rfl ?_
                refine r_aload_n 1 dX2_readLaw_78 rfl rfl ?_
                obtain ⟨q52, hq52, h⟩ := b1_some h
                refine r_callVi (k := 61) (rest := []) (by omega) (mX2_readBar hk1 hq52) sX_61 rfl rfl cb_X2_readBar ml_X2_54 im_X2_readBar se_X2_readBar rfl rfl (Nat.le_of_ble_eq_true rfl) dX2_readLaw_79 ?_
                refine r_istore_n (i := 2) [(0, .ref (ad_ G 61)), (1, .ref (ad_ G k1)), (2, .int q52.1)] [1, 2, 0] dX2_readLaw_82 rfl (by decide) rfl ?_
                refine r_goto 128 dX2_readLaw_83 (by decide) ?_
                refine r_iload_n 2 dX2_readLaw_128 rfl rfl ?_
                refine r_if_eq 140 dX2_readLaw_129 (by decide) (fun c56 => ?_) (fun c56 => ?_)
                · rw [if_pos c56] at h
                  refine r_iconst (v := 0) dX2_readLaw_140 rfl ?_
                  obtain rfl := Option.some.inj h
                  exact r_zreturn rfl (by decide) dX2_readLaw_141 (hp)
                · rw [if_neg c56] at h
                  refine r_aload_n 0 dX2_readLaw_132 rfl rfl ?_
                  refine r_iconst (v := 4) dX2_readLaw_133 rfl ?_
                  obtain ⟨q53, hq53, h⟩ := b1_some h
                  refine r_callVi (k := 61) (rest := []) (by omega) (mX2_expect hq53) sX_61 rfl rfl cb_X2_expect ml_X2_70 im_X2_expect se_X2_expect rfl rfl (Nat.le_of_ble_eq_true rfl) dX2_readLaw_134 ?_
                  refine r_if_ne 142 dX2_readLaw_137 (by decide) (fun c55 => ?_) (fun c55 => ?_)
                  · rw [if_neg c55] at h
                    refine r_aload_n 1 dX2_readLaw_142 rfl rfl ?_
                    refine r_dup dX2_readLaw_143 rfl ?_
                    refine r_getI (k := k1) (j := 6) hk1.1 rfl fl_X2_73 dX2_readLaw_144 ?_
                    refine r_iconst (v := 1) dX2_readLaw_147 rfl ?_
                    refine r_iadd dX2_readLaw_148 ?_
                    obtain ⟨S54, hS54, h⟩ := b1_some h
                    refine r_setI (k := k1) (j := 6) hk1.1 rfl pf_X2_73 hS54 dX2_readLaw_149 ?_
                    refine r_iconst (v := 1) dX2_readLaw_152 rfl ?_
                    obtain rfl := Option.some.inj h
                    exact r_zreturn rfl (by decide) dX2_readLaw_153 (hp)
                  · rw [if_pos c55] at h
                    refine r_iconst (v := 0) dX2_readLaw_140 rfl ?_
                    obtain rfl := Option.some.inj h
                    exact r_zreturn rfl (by decide) dX2_readLaw_141 (hp)
              · rw [if_neg c57] at h
                by_cases c63 : gI_ S21 61 2 = 7
                · rw [if_pos c63] at h
                  refine r_tableIn 86 dX2_readLaw_17 c63 (by decide) (by decide) rfl (by decide) ?_
                  refine r_aload_n 0 dX2_readLaw_86 rfl rfl ?_
                  refine r_aload_n 1 dX2_readLaw_87 rfl rfl ?_
                  obtain ⟨q58, hq58, h⟩ := b1_some h
                  refine r_callVi (k := 61) (rest := []) (by omega) (mX2_readLimit hk1 hq58) sX_61 rfl rfl cb_X2_readLimit ml_X2_57 im_X2_readLimit se_X2_readLimit rfl rfl (Nat.le_of_ble_eq_true rfl) dX2_readLaw_88 ?_
                  refine r_istore_n (i := 2) [(0, .ref (ad_ G 61)), (1, .ref (ad_ G k1)), (2, .int q58.1)] [1, 2, 0] dX2_readLaw_91 rfl (by decide) rfl ?_
                  refine r_goto 128 dX2_readLaw_92 (by decide) ?_
                  refine r_iload_n 2 dX2_readLaw_128 rfl rfl ?_
                  refine r_if_eq 140 dX2_readLaw_129 (by decide) (fun c62 => ?_) (fun c62 => ?_)
                  · rw [if_pos c62] at h
                    refine r_iconst (v := 0) dX2_readLaw_140 rfl ?_
                    obtain rfl := Option.some.inj h
                    exact r_zreturn rfl (by decide) dX2_readLaw_141 (hp)
                  · rw [if_neg c62] at h
                    refine r_aload_n 0 dX2_readLaw_132 rfl rfl ?_
                    refine r_iconst (v := 4) dX2_readLaw_133 rfl ?_
                    obtain ⟨q59, hq59, h⟩ := b1_some h
                    refine r_callVi (k := 61) (rest := []) (by omega) (mX2_expect hq59) sX_61 rfl rfl cb_X2_expect ml_X2_70 im_X2_expect se_X2_expect rfl rfl (Nat.le_of_ble_eq_true rfl) dX2_readLaw_134 ?_
                    refine r_if_ne 142 dX2_readLaw_137 (by decide) (fun c61 => ?_) (fun c61 => ?_)
                    · rw [if_neg c61] at h
                      refine r_aload_n 1 dX2_readLaw_142 rfl rfl ?_
                      refine r_dup dX2_readLaw_143 rfl ?_
                      refine r_getI (k := k1) (j := 6) hk1.1 rfl fl_X2_73 dX2_readLaw_144 ?_
                      refine r_iconst (v := 1) dX2_readLaw_147 rfl ?_
                      refine r_iadd dX2_readLaw_148 ?_
                      obtain ⟨S60, hS60, h⟩ := b1_some h
                      refine r_setI (k := k1) (j := 6) hk1.1 rfl pf_X2_73 hS60 dX2_readLaw_149 ?_
                      refine r_iconst (v := 1) dX2_readLaw_152 rfl ?_
                      obtain rfl := Option.some.inj h
                      exact r_zreturn rfl (by decide) dX2_readLaw_153 (hp)
                    · rw [if_pos c61] at h
                      refine r_iconst (v := 0) dX2_readLaw_140 rfl ?_
                      obtain rfl := Option.some.inj h
                      exact r_zreturn rfl (by decide) dX2_readLaw_141 (hp)
                · rw [if_neg c63] at h
                  by_cases c69 : gI_ S21 61 2 = 8
                  · rw [if_pos c69] at h
                    refine r_tableIn 95 dX2_readLaw_17 c69 (by decide) (by decide) rfl (by decide) ?_
                    refine r_aload_n 0 dX2_readLaw_95 rfl rfl ?_
                    refine r_aload_n 1 dX2_readLaw_96 rfl rfl ?_
                    obtain ⟨q64, hq64, h⟩ := b1_some h
                    refine r_callVi (k := 61) (rest := []) (by omega) (mX2_readLeast hk1 hq64) sX_61 rfl rfl cb_X2_readLeast ml_X2_60 im_X2_readLeast se_X2_readLeast rfl rfl (Nat.le_of_ble_eq_true rfl) dX2_readLaw_97 ?_
                    refine r_istore_n (i := 2) [(0, .ref (ad_ G 61)), (1, .ref (ad_ G k1)), (2, .int q64.1)] [1, 2, 0] dX2_readLaw_100 rfl (by decide) rfl ?_
                    refine r_goto 128 dX2_readLaw_101 (by decide) ?_
                    refine r_iload_n 2 dX2_readLaw_128 rfl rfl ?_
                    refine r_if_eq 140 dX2_readLaw_129 (by decide) (fun c68 => ?_) (fun c68 => ?_)
                    · rw [if_pos c68] at h
                      refine r_iconst (v := 0) dX2_readLaw_140 rfl ?_
                      obtain rfl := Option.some.inj h
                      exact r_zreturn rfl (by decide) dX2_readLaw_141 (hp)
                    · rw [if_neg c68] at h
                      refine r_aload_n 0 dX2_readLaw_132 rfl rfl ?_
                      refine r_iconst (v := 4) dX2_readLaw_133 rfl ?_
                      obtain ⟨q65, hq65, h⟩ := b1_some h
                      refine r_callVi (k := 61) (rest := []) (by omega) (mX2_expect hq65) sX_61 rfl rfl cb_X2_expect ml_X2_70 im_X2_expect se_X2_expect rfl rfl (Nat.le_of_ble_eq_true rfl) dX2_readLaw_134 ?_
                      refine r_if_ne 142 dX2_readLaw_137 (by decide) (fun c67 => ?_) (fun c67 => ?_)
                      · rw [if_neg c67] at h
                        refine r_aload_n 1 dX2_readLaw_142 rfl rfl ?_
                        refine r_dup dX2_readLaw_143 rfl ?_
                        refine r_getI (k := k1) (j := 6) hk1.1 rfl fl_X2_73 dX2_readLaw_144 ?_
                        refine r_iconst (v := 1) dX2_readLaw_147 rfl ?_
                        refine r_iadd dX2_readLaw_148 ?_
                        obtain ⟨S66, hS66, h⟩ := b1_some h
                        refine r_setI (k := k1) (j := 6) hk1.1 rfl pf_X2_73 hS66 dX2_readLaw_149 ?_
                        refine r_iconst (v := 1) dX2_readLaw_152 rfl ?_
                        obtain rfl := Option.some.inj h
                        exact r_zreturn rfl (by decide) dX2_readLaw_153 (hp)
                      · rw [if_pos c67] at h
                        refine r_iconst (v := 0) dX2_readLaw_140 rfl ?_
                        obtain rfl := Option.some.inj h
                        exact r_zreturn rfl (by decide) dX2_readLaw_141 (hp)
                  · rw [if_neg c69] at h
                    by_cases c75 : gI_ S21 61 2 = 9
                    · rw [if_pos c75] at h
                      refine r_tableIn 104 dX2_readLaw_17 c75 (by decide) (by decide) rfl (by decide) ?_
                      refine r_aload_n 0 dX2_readLaw_104 rfl rfl ?_
                      refine r_aload_n 1 dX2_readLaw_105 rfl rfl ?_
                      obtain ⟨q70, hq70, h⟩ := b1_some h
                      refine r_callVi (k := 61) (rest := []) (by omega) (mX2_readSecond hk1 hq70) sX_61 rfl rfl cb_X2_readSecond ml_X2_63 im_X2_readSecond se_X2_readSecond rfl rfl (Nat.le_of_ble_eq_true rfl) dX2_readLaw_106 ?_
                      refine r_istore_n (i := 2) [(0, .ref (ad_ G 61)), (1, .ref (ad_ G k1)), (2, .int q70.1)] [1, 2, 0] dX2_readLaw_109 rfl (by decide) rfl ?_
                      refine r_goto 128 dX2_readLaw_110 (by decide) ?_
                      refine r_iload_n 2 dX2_readLaw_128 rfl rfl ?_
                      refine r_if_eq 140 dX2_readLaw_129 (by decide) (fun c74 => ?_) (fun c74 => ?_)
                      · rw [if_pos c74] at h
                        refine r_iconst (v := 0) dX2_readLaw_140 rfl ?_
                        obtain rfl := Option.some.inj h
                        exact r_zreturn rfl (by decide) dX2_readLaw_141 (hp)
                      · rw [if_neg c74] at h
                        refine r_aload_n 0 dX2_readLaw_132 rfl rfl ?_
                        refine r_iconst (v := 4) dX2_readLaw_133 rfl ?_
                        obtain ⟨q71, hq71, h⟩ := b1_some h
                        refine r_callVi (k := 61) (rest := []) (by omega) (mX2_expect hq71) sX_61 rfl rfl cb_X2_expect ml_X2_70 im_X2_expect se_X2_expect rfl rfl (Nat.le_of_ble_eq_true rfl) dX2_readLaw_134 ?_
                        refine r_if_ne 142 dX2_readLaw_137 (by decide) (fun c73 => ?_) (fun c73 => ?_)
                        · rw [if_neg c73] at h
                          refine r_aload_n 1 dX2_readLaw_142 rfl rfl ?_
                          refine r_dup dX2_readLaw_143 rfl ?_
                          refine r_getI (k := k1) (j := 6) hk1.1 rfl fl_X2_73 dX2_readLaw_144 ?_
                          refine r_iconst (v := 1) dX2_readLaw_147 rfl ?_
                          refine r_iadd dX2_readLaw_148 ?_
                          obtain ⟨S72, hS72, h⟩ := b1_some h
                          refine r_setI (k := k1) (j := 6) hk1.1 rfl pf_X2_73 hS72 dX2_readLaw_149 ?_
                          refine r_iconst (v := 1) dX2_readLaw_152 rfl ?_
                          obtain rfl := Option.some.inj h
                          exact r_zreturn rfl (by decide) dX2_readLaw_153 (hp)
                        · rw [if_pos c73] at h
                          refine r_iconst (v := 0) dX2_readLaw_140 rfl ?_
                          obtain rfl := Option.some.inj h
                          exact r_zreturn rfl (by decide) dX2_readLaw_141 (hp)
                    · rw [if_neg c75] at h
                      have nc27 : (gI_ S21 61 2 : Int32).toInt ≠ 1 := ne_toInt c27
                      have nc33 : (gI_ S21 61 2 : Int32).toInt ≠ 2 := ne_toInt c33
                      have nc39 : (gI_ S21 61 2 : Int32).toInt ≠ 3 := ne_toInt c39
                      have nc45 : (gI_ S21 61 2 : Int32).toInt ≠ 4 := ne_toInt c45
                      have nc51 : (gI_ S21 61 2 : Int32).toInt ≠ 5 := ne_toInt c51
                      have nc57 : (gI_ S21 61 2 : Int32).toInt ≠ 6 := ne_toInt c57
                      have nc63 : (gI_ S21 61 2 : Int32).toInt ≠ 7 := ne_toInt c63
                      have nc69 : (gI_ S21 61 2 : Int32).toInt ≠ 8 := ne_toInt c69
                      have nc75 : (gI_ S21 61 2 : Int32).toInt ≠ 9 := ne_toInt c75
                      refine r_tableOut 122 dX2_readLaw_17 (by omega) (by decide) ?_
                      refine r_aload_n 0 dX2_readLaw_122 rfl rfl ?_
                      refine r_iconst (v := 2) dX2_readLaw_123 rfl ?_
                      obtain ⟨q76, hq76, h⟩ := b1_some h
                      refine r_callVi (k := 61) (rest := []) (by omega) (mX2_fail hq76) sX_61 rfl rfl cb_X2_fail ml_X2_66 im_X2_fail se_X2_fail rfl rfl (Nat.le_of_ble_eq_true rfl) dX2_readLaw_124 ?_
                      refine r_istore_n (i := 2) [(0, .ref (ad_ G 61)), (1, .ref (ad_ G k1)), (2, .int q76.1)] [1, 2, 0] dX2_readLaw_127 rfl (by decide) rfl ?_
                      refine r_iload_n 2 dX2_readLaw_128 rfl rfl ?_
                      refine r_if_eq 140 dX2_readLaw_129 (by decide) (fun c80 => ?_) (fun c80 => ?_)
                      · rw [if_pos c80] at h
                        refine r_iconst (v := 0) dX2_readLaw_140 rfl ?_
                        obtain rfl := Option.some.inj h
                        exact r_zreturn rfl (by decide) dX2_readLaw_141 (hp)
                      · rw [if_neg c80] at h
                        refine r_aload_n 0 dX2_readLaw_132 rfl rfl ?_
                        refine r_iconst (v := 4) dX2_readLaw_133 rfl ?_
                        obtain ⟨q77, hq77, h⟩ := b1_some h
                        refine r_callVi (k := 61) (rest := []) (by omega) (mX2_expect hq77) sX_61 rfl rfl cb_X2_expect ml_X2_70 im_X2_expect se_X2_expect rfl rfl (Nat.le_of_ble_eq_true rfl) dX2_readLaw_134 ?_
                        refine r_if_ne 142 dX2_readLaw_137 (by decide) (fun c79 => ?_) (fun c79 => ?_)
                        · rw [if_neg c79] at h
                          refine r_aload_n 1 dX2_readLaw_142 rfl rfl ?_
                          refine r_dup dX2_readLaw_143 rfl ?_
                          refine r_getI (k := k1) (j := 6) hk1.1 rfl fl_X2_73 dX2_readLaw_144 ?_
                          refine r_iconst (v := 1) dX2_readLaw_147 rfl ?_
                          refine r_iadd dX2_readLaw_148 ?_
                          obtain ⟨S78, hS78, h⟩ := b1_some h
                          refine r_setI (k := k1) (j := 6) hk1.1 rfl pf_X2_73 hS78 dX2_readLaw_149 ?_
                          refine r_iconst (v := 1) dX2_readLaw_152 rfl ?_
                          obtain rfl := Option.some.inj h
                          exact r_zreturn rfl (by decide) dX2_readLaw_153 (hp)
                        · rw [if_pos c79] at h
                          refine r_iconst (v := 0) dX2_readLaw_140 rfl ?_
                          obtain rfl := Option.some.inj h
                          exact r_zreturn rfl (by decide) dX2_readLaw_141 (hp)
  · rw [if_pos c81] at h
    refine r_iconst (v := 0) dX2_readLaw_11 rfl ?_
    obtain rfl := Option.some.inj h
    exact r_zreturn rfl (by decide) dX2_readLaw_12 (hp)
theorem mX2_readLaw {G : Gx} {k1 : Nat} {S : St} {o : (Int32 × St)} (hk1 : IsLw k1) (h : fX2_readLaw k1 S = some o) : MR_ G shX 4 yX2_readLaw cX2_readLaw 3 (some .boolean) [.ref (ad_ G 61), .ref (ad_ G k1)] S (PI_ o.1 o.2) := MR_of cb_X2_readLaw (Nat.le_of_ble_eq_true rfl) [(0, .ref (ad_ G 61)), (1, .ref (ad_ G k1))] rfl (tX2_readLaw hk1 h ⟨rfl, rfl⟩)
set_option maxRecDepth 100000 in
set_option maxHeartbeats 4000000 in
theorem tX2_read {G : Gx} {post : Option Value → St → Prop} {k1 : Nat} {S : St} {o : St} (hk1 : IsLw k1) (h : fX2_read k1 S = some o) (hp : post none o) : Rn G shX 8 yX2_read cX2_read 4 none 0 [(0, .ref (ad_ G 61)), (1, .ref (ad_ G k1))] [] S post := by
  unfold fX2_read at h
  refine r_aload_n 1 dX2_read_0 rfl rfl ?_
  obtain ⟨S21, hS21, h⟩ := b1_some h
  refine r_callVv (k := k1) (rest := []) (by omega) (mX3_forget hk1 hS21) hk1.1 rfl rfl cb_X3_forget ml_X2_36 im_X3_forget se_X3_forget rfl rfl (Nat.le_of_ble_eq_true rfl) dX2_read_1 ?_
  refine r_aload_n 0 dX2_read_4 rfl rfl ?_
  refine r_iconst (v := 0) dX2_read_5 rfl ?_
  obtain ⟨S22, hS22, h⟩ := b1_some h
  refine r_setI (k := 61) (j := 5) sX_61 rfl pf_X2_26 hS22 dX2_read_6 ?_
  refine r_aload_n 0 dX2_read_9 rfl rfl ?_
  refine r_iconst (v := 0) dX2_read_10 rfl ?_
  obtain ⟨S23, hS23, h⟩ := b1_some h
  refine r_setI (k := 61) (j := 6) sX_61 rfl pf_X2_29 hS23 dX2_read_11 ?_
  refine r_aload_n 0 dX2_read_14 rfl rfl ?_
  refine r_iconst (v := 0) dX2_read_15 rfl ?_
  obtain ⟨S24, hS24, h⟩ := b1_some h
  refine r_setI (k := 61) (j := 1) sX_61 rfl pf_X2_9 hS24 dX2_read_16 ?_
  refine r_aload_n 0 dX2_read_19 rfl rfl ?_
  refine r_getC (k := 61) (j := 0) (r := 56) sX_61 rfl fl_X2_32 dX2_read_20 ?_
  obtain ⟨S25, hS25, h⟩ := b1_some h
  refine r_callVv (k := 56) (rest := []) (by omega) (mX10_split hS25) sX_56 rfl rfl cb_X10_split ml_X2_41 im_X10_split se_X10_split rfl rfl (Nat.le_of_ble_eq_true rfl) dX2_read_23 ?_
  refine r_iconst (v := 1) dX2_read_26 rfl ?_
  refine r_istore_n (i := 2) [(0, .ref (ad_ G 61)), (1, .ref (ad_ G k1)), (2, .int 1)] [1, 2, 0] dX2_read_27 rfl (by decide) rfl ?_
  refine r_iconst (v := 0) dX2_read_28 rfl ?_
  refine r_istore_n (i := 3) [(0, .ref (ad_ G 61)), (1, .ref (ad_ G k1)), (2, .int 1), (3, .int 0)] [1, 2, 3, 0] dX2_read_29 rfl (by decide) rfl ?_
  have key : ∀ ex, lp (fun w26 : Int32 × Int32 × St => bX2_read_30 k1 w26.1 w26.2.1 w26.2.2) 5000 (1, 0, S25) = some ex → (fun u33 : St => Rn G shX 8 yX2_read cX2_read 4 none 53 [] [] u33 post) ex → Rn G shX 8 yX2_read cX2_read 4 none 30 [(0, .ref (ad_ G 61)), (1, .ref (ad_ G k1)), (2, .int 1), (3, .int 0)] [] S25 post := by
    intro ex hl hx
    refine lp_rule (body := (fun w26 : Int32 × Int32 × St => bX2_read_30 k1 w26.1 w26.2.1 w26.2.2)) (R := (fun w26 : Int32 × Int32 × St => Rn G shX 8 yX2_read cX2_read 4 none 30 [(0, .ref (ad_ G 61)), (1, .ref (ad_ G k1)), (2, .int w26.1), (3, .int w26.2.1)] [] w26.2.2 post)) (X := (fun u33 : St => Rn G shX 8 yX2_read cX2_read 4 none 53 [] [] u33 post)) ?_ 5000 (1, 0, S25) ex hl hx
    intro w26 oo h hB hX
    obtain ⟨v27, v28, S29⟩ := w26
    replace h : bX2_read_30 k1 v27 v28 S29 = some oo := h
    unfold bX2_read_30 at h
    show Rn G shX 8 yX2_read cX2_read 4 none 30 [(0, .ref (ad_ G 61)), (1, .ref (ad_ G k1)), (2, .int v27), (3, .int v28)] [] S29 post
    refine r_iload_n 3 dX2_read_30 rfl rfl ?_
    refine r_sipush (v := 200) dX2_read_31 rfl ?_
    refine r_icmp_gt 53 dX2_read_34 (by decide) (fun c32 => ?_) (fun c32 => ?_)
    · rw [if_pos c32] at h
      refine r_sub [] [] rfl ?_
      obtain rfl := Option.some.inj h
      exact hX S29 rfl
    · rw [if_neg c32] at h
      refine r_iload_n 2 dX2_read_37 rfl rfl ?_
      refine r_if_eq 53 dX2_read_38 (by decide) (fun c31 => ?_) (fun c31 => ?_)
      · rw [if_pos c31] at h
        refine r_sub [] [] rfl ?_
        obtain rfl := Option.some.inj h
        exact hX S29 rfl
      · rw [if_neg c31] at h
        refine r_aload_n 0 dX2_read_41 rfl rfl ?_
        refine r_aload_n 1 dX2_read_42 rfl rfl ?_
        obtain ⟨q30, hq30, h⟩ := b1_some h
        refine r_callVi (k := 61) (rest := []) (by omega) (mX2_readLaw hk1 hq30) sX_61 rfl rfl cb_X2_readLaw ml_X2_44 im_X2_readLaw se_X2_readLaw rfl rfl (Nat.le_of_ble_eq_true rfl) dX2_read_43 ?_
        refine r_istore_n (i := 2) [(0, .ref (ad_ G 61)), (1, .ref (ad_ G k1)), (2, .int q30.1), (3, .int v28)] [1, 2, 0, 3] dX2_read_46 rfl (by decide) rfl ?_
        refine r_iinc (v := v28 + 1) [(0, .ref (ad_ G 61)), (1, .ref (ad_ G k1)), (2, .int q30.1), (3, .int (v28 + 1))] 3 [1, 2, 3, 0] dX2_read_47 rfl rfl (by decide) rfl ?_
        refine r_goto 30 dX2_read_50 (by decide) ?_
        obtain rfl := Option.some.inj h
        exact hB (q30.1, v28 + 1, q30.2) rfl
  obtain ⟨u33, hu33, h⟩ := b1_some h
  refine key u33 hu33 ?_
  show Rn G shX 8 yX2_read cX2_read 4 none 53 [] [] u33 post
  obtain rfl := Option.some.inj h
  exact r_return rfl dX2_read_53 (hp)
theorem mX2_read {G : Gx} {k1 : Nat} {S : St} {o : St} (hk1 : IsLw k1) (h : fX2_read k1 S = some o) : MR_ G shX 8 yX2_read cX2_read 4 none [.ref (ad_ G 61), .ref (ad_ G k1)] S (PV_ o) := MR_of cb_X2_read (Nat.le_of_ble_eq_true rfl) [(0, .ref (ad_ G 61)), (1, .ref (ad_ G k1))] rfl (tX2_read hk1 h ⟨rfl, rfl⟩)
set_option maxRecDepth 100000 in
set_option maxHeartbeats 4000000 in
theorem tX11_laws {G : Gx} {post : Option Value → St → Prop} {S : St} {o : (Int32 × St)}  (h : fX11_laws S = some o) (hp : post (some (.int o.1)) o.2) : Rn G shX 9 yX11_laws cX11_laws 2 (some .int) 0 [(0, .ref (ad_ G 0))] [] S post := by
  unfold fX11_laws at h
  refine r_aload_n 0 dX11_laws_0 rfl rfl ?_
  refine r_getC (k := 0) (j := 10) (r := 61) sX_0 rfl fl_X11_82 dX11_laws_1 ?_
  refine r_aload_n 0 dX11_laws_4 rfl rfl ?_
  obtain ⟨k21, hk21, h⟩ := b1_some h
  have ik21 := okL_is hk21
  refine r_getP (k := 0) (j := 12) sX_0 rfl fl_X11_93 hk21 dX11_laws_5 ?_
  obtain ⟨S22, hS22, h⟩ := b1_some h
  refine r_callVv (k := 61) (rest := []) (by omega) (mX2_read ik21 hS22) sX_61 rfl rfl cb_X2_read ml_X11_329 im_X2_read se_X2_read rfl rfl (Nat.le_of_ble_eq_true rfl) dX11_laws_8 ?_
  refine r_aload_n 0 dX11_laws_11 rfl rfl ?_
  refine r_getC (k := 0) (j := 9) (r := 56) sX_0 rfl fl_X11_73 dX11_laws_12 ?_
  refine r_iconst (v := 0) dX11_laws_15 rfl ?_
  obtain ⟨S23, hS23, h⟩ := b1_some h
  refine r_setI (k := 56) (j := 1) sX_56 rfl pf_X11_323 hS23 dX11_laws_16 ?_
  refine r_aload_n 0 dX11_laws_19 rfl rfl ?_
  refine r_getC (k := 0) (j := 10) (r := 61) sX_0 rfl fl_X11_82 dX11_laws_20 ?_
  refine r_getI (k := 61) (j := 5) sX_61 rfl fl_X11_333 dX11_laws_23 ?_
  refine r_if_eq 40 dX11_laws_26 (by decide) (fun c29 => ?_) (fun c29 => ?_)
  · rw [if_pos c29] at h
    refine r_aload_n 0 dX11_laws_40 rfl rfl ?_
    obtain ⟨k24, hk24, h⟩ := b1_some h
    have ik24 := okL_is hk24
    refine r_getP (k := 0) (j := 11) sX_0 rfl fl_X11_89 hk24 dX11_laws_41 ?_
    refine r_astore_n (i := 1) [(0, .ref (ad_ G 0)), (1, .ref (ad_ G k24))] [1, 0] dX11_laws_44 rfl (by decide) rfl ?_
    refine r_aload_n 0 dX11_laws_45 rfl rfl ?_
    refine r_aload_n 0 dX11_laws_46 rfl rfl ?_
    obtain ⟨k25, hk25, h⟩ := b1_some h
    have ik25 := okL_is hk25
    refine r_getP (k := 0) (j := 12) sX_0 rfl fl_X11_93 hk25 dX11_laws_47 ?_
    obtain ⟨S26, hS26, h⟩ := b1_some h
    refine r_setR (k := 0) (j := 11) sX_0 rfl pf_X11_89 hS26 dX11_laws_50 ?_
    refine r_aload_n 0 dX11_laws_53 rfl rfl ?_
    refine r_aload_n 1 dX11_laws_54 rfl rfl ?_
    obtain ⟨S27, hS27, h⟩ := b1_some h
    refine r_setR (k := 0) (j := 12) sX_0 rfl pf_X11_93 hS27 dX11_laws_55 ?_
    refine r_aload_n 0 dX11_laws_58 rfl rfl ?_
    obtain ⟨k28, hk28, h⟩ := b1_some h
    have ik28 := okL_is hk28
    refine r_getP (k := 0) (j := 11) sX_0 rfl fl_X11_89 hk28 dX11_laws_59 ?_
    refine r_getI (k := k28) (j := 6) ik28.1 rfl fl_X11_339 dX11_laws_62 ?_
    obtain rfl := Option.some.inj h
    exact r_ireturn rfl dX11_laws_65 (hp)
  · rw [if_neg c29] at h
    refine r_bipush (v := (-10)) dX11_laws_29 rfl ?_
    refine r_aload_n 0 dX11_laws_31 rfl rfl ?_
    refine r_getC (k := 0) (j := 10) (r := 61) sX_0 rfl fl_X11_82 dX11_laws_32 ?_
    refine r_getI (k := 61) (j := 6) sX_61 rfl fl_X11_336 dX11_laws_35 ?_
    refine r_isub dX11_laws_38 ?_
    obtain rfl := Option.some.inj h
    exact r_ireturn rfl dX11_laws_39 (hp)
theorem mX11_laws {G : Gx} {S : St} {o : (Int32 × St)}  (h : fX11_laws S = some o) : MR_ G shX 9 yX11_laws cX11_laws 2 (some .int) [.ref (ad_ G 0)] S (PI_ o.1 o.2) := MR_of cb_X11_laws (Nat.le_of_ble_eq_true rfl) [(0, .ref (ad_ G 0))] rfl (tX11_laws  h ⟨rfl, rfl⟩)
set_option maxRecDepth 100000 in
set_option maxHeartbeats 4000000 in
theorem tX11_fault {G : Gx} {post : Option Value → St → Prop} {S : St} {o : Int32}  (h : fX11_fault S = some o) (hp : post (some (.int o)) S) : Rn G shX 0 yX11_fault cX11_fault 1 (some .int) 0 [(0, .ref (ad_ G 0))] [] S post := by
  unfold fX11_fault at h
  refine r_aload_n 0 dX11_fault_0 rfl rfl ?_
  refine r_getC (k := 0) (j := 10) (r := 61) sX_0 rfl fl_X11_82 dX11_fault_1 ?_
  refine r_getI (k := 61) (j := 5) sX_61 rfl fl_X11_333 dX11_fault_4 ?_
  obtain rfl := Option.some.inj h
  exact r_ireturn rfl dX11_fault_7 (hp)
theorem mX11_fault {G : Gx} {S : St} {o : Int32}  (h : fX11_fault S = some o) : MR_ G shX 0 yX11_fault cX11_fault 1 (some .int) [.ref (ad_ G 0)] S (PI_ o S) := MR_of cb_X11_fault (Nat.le_of_ble_eq_true rfl) [(0, .ref (ad_ G 0))] rfl (tX11_fault  h ⟨rfl, rfl⟩)
set_option maxRecDepth 100000 in
set_option maxHeartbeats 4000000 in
theorem tX11_stamp {G : Gx} {post : Option Value → St → Prop} {S : St} {v1 : Int32} {v2 : Int32} {o : Int32}  (h : fX11_stamp S v1 v2 = some o) (hp : post (some (.int o)) S) : Rn G shX 1 yX11_stamp cX11_stamp 3 (some .int) 0 [(0, .ref (ad_ G 0)), (1, .int v1), (2, .int v2)] [] S post := by
  unfold fX11_stamp at h
  refine r_iload_n 1 dX11_stamp_0 rfl rfl ?_
  refine r_iconst (v := 0) dX11_stamp_1 rfl ?_
  refine r_bipush (v := 7) dX11_stamp_2 rfl ?_
  obtain ⟨x21, hx21, h⟩ := b1_some h
  refine r_callSi (rest := []) (by omega) (mX11_within hx21) cb_X11_within ml_X11_103 sm_X11_within rfl rfl (Nat.le_of_ble_eq_true rfl) dX11_stamp_4 ?_
  refine r_if_ne 12 dX11_stamp_7 (by decide) (fun c31 => ?_) (fun c31 => ?_)
  · rw [if_neg c31] at h
    refine r_iload_n 2 dX11_stamp_12 rfl rfl ?_
    by_cases c24 : v2 = 0
    · rw [if_pos c24] at h
      refine r_tableIn 40 dX11_stamp_13 c24 (by decide) (by decide) rfl (by decide) ?_
      refine r_aload_n 0 dX11_stamp_40 rfl rfl ?_
      obtain ⟨k22, hk22, h⟩ := b1_some h
      have ik22 := okL_is hk22
      refine r_getP (k := 0) (j := 11) sX_0 rfl fl_X11_89 hk22 dX11_stamp_41 ?_
      refine r_getC (k := k22) (j := 0) (r := k22 + 1) ik22.1 rfl fl_X11_340 dX11_stamp_44 ?_
      refine r_iload_n 1 dX11_stamp_47 rfl rfl ?_
      obtain ⟨x23, hx23, h⟩ := b1_some h
      refine r_iaload ik22.2.1 hx23 dX11_stamp_48 ?_
      obtain rfl := Option.some.inj h
      exact r_ireturn rfl dX11_stamp_49 (hp)
    · rw [if_neg c24] at h
      by_cases c27 : v2 = 1
      · rw [if_pos c27] at h
        refine r_tableIn 50 dX11_stamp_13 c27 (by decide) (by decide) rfl (by decide) ?_
        refine r_aload_n 0 dX11_stamp_50 rfl rfl ?_
        obtain ⟨k25, hk25, h⟩ := b1_some h
        have ik25 := okL_is hk25
        refine r_getP (k := 0) (j := 11) sX_0 rfl fl_X11_89 hk25 dX11_stamp_51 ?_
        refine r_getC (k := k25) (j := 1) (r := k25 + 2) ik25.1 rfl fl_X11_343 dX11_stamp_54 ?_
        refine r_iload_n 1 dX11_stamp_57 rfl rfl ?_
        obtain ⟨x26, hx26, h⟩ := b1_some h
        refine r_iaload ik25.2.2.1 hx26 dX11_stamp_58 ?_
        obtain rfl := Option.some.inj h
        exact r_ireturn rfl dX11_stamp_59 (hp)
      · rw [if_neg c27] at h
        by_cases c30 : v2 = 2
        · rw [if_pos c30] at h
          refine r_tableIn 60 dX11_stamp_13 c30 (by decide) (by decide) rfl (by decide) ?_
          refine r_aload_n 0 dX11_stamp_60 rfl rfl ?_
          obtain ⟨k28, hk28, h⟩ := b1_some h
          have ik28 := okL_is hk28
          refine r_getP (k := 0) (j := 11) sX_0 rfl fl_X11_89 hk28 dX11_stamp_61 ?_
          refine r_getC (k := k28) (j := 2) (r := k28 + 3) ik28.1 rfl fl_X11_346 dX11_stamp_64 ?_
          refine r_iload_n 1 dX11_stamp_67 rfl rfl ?_
          obtain ⟨x29, hx29, h⟩ := b1_some h
          refine r_iaload ik28.2.2.2.1 hx29 dX11_stamp_68 ?_
          obtain rfl := Option.some.inj h
          exact r_ireturn rfl dX11_stamp_69 (hp)
        · rw [if_neg c30] at h
          have nc24 : (v2 : Int32).toInt ≠ 0 := ne_toInt c24
          have nc27 : (v2 : Int32).toInt ≠ 1 := ne_toInt c27
          have nc30 : (v2 : Int32).toInt ≠ 2 := ne_toInt c30
          refine r_tableOut 70 dX11_stamp_13 (by omega) (by decide) ?_
          refine r_iconst (v := (-1)) dX11_stamp_70 rfl ?_
          obtain rfl := Option.some.inj h
          exact r_ireturn rfl dX11_stamp_71 (hp)
  · rw [if_pos c31] at h
    refine r_iconst (v := (-1)) dX11_stamp_10 rfl ?_
    obtain rfl := Option.some.inj h
    exact r_ireturn rfl dX11_stamp_11 (hp)
theorem mX11_stamp {G : Gx} {S : St} {v1 : Int32} {v2 : Int32} {o : Int32}  (h : fX11_stamp S v1 v2 = some o) : MR_ G shX 1 yX11_stamp cX11_stamp 3 (some .int) [.ref (ad_ G 0), .int v1, .int v2] S (PI_ o S) := MR_of cb_X11_stamp (Nat.le_of_ble_eq_true rfl) [(0, .ref (ad_ G 0)), (1, .int v1), (2, .int v2)] rfl (tX11_stamp  h ⟨rfl, rfl⟩)
set_option maxRecDepth 100000 in
set_option maxHeartbeats 4000000 in
theorem tX11_name {G : Gx} {post : Option Value → St → Prop} {S : St} {v1 : Int32} {v2 : Int32} {o : Int32}  (h : fX11_name S v1 v2 = some o) (hp : post (some (.int o)) S) : Rn G shX 1 yX11_name cX11_name 3 (some .int) 0 [(0, .ref (ad_ G 0)), (1, .int v1), (2, .int v2)] [] S post := by
  unfold fX11_name at h
  refine r_iload_n 1 dX11_name_0 rfl rfl ?_
  refine r_iconst (v := 0) dX11_name_1 rfl ?_
  refine r_bipush (v := 7) dX11_name_2 rfl ?_
  obtain ⟨x21, hx21, h⟩ := b1_some h
  refine r_callSi (rest := []) (by omega) (mX11_within hx21) cb_X11_within ml_X11_103 sm_X11_within rfl rfl (Nat.le_of_ble_eq_true rfl) dX11_name_4 ?_
  refine r_if_ne 12 dX11_name_7 (by decide) (fun c31 => ?_) (fun c31 => ?_)
  · rw [if_neg c31] at h
    refine r_iload_n 2 dX11_name_12 rfl rfl ?_
    by_cases c24 : v2 = 0
    · rw [if_pos c24] at h
      refine r_tableIn 40 dX11_name_13 c24 (by decide) (by decide) rfl (by decide) ?_
      refine r_aload_n 0 dX11_name_40 rfl rfl ?_
      obtain ⟨k22, hk22, h⟩ := b1_some h
      have ik22 := okL_is hk22
      refine r_getP (k := 0) (j := 11) sX_0 rfl fl_X11_89 hk22 dX11_name_41 ?_
      refine r_getC (k := k22) (j := 3) (r := k22 + 4) ik22.1 rfl fl_X11_349 dX11_name_44 ?_
      refine r_iload_n 1 dX11_name_47 rfl rfl ?_
      obtain ⟨x23, hx23, h⟩ := b1_some h
      refine r_iaload ik22.2.2.2.2.1 hx23 dX11_name_48 ?_
      obtain rfl := Option.some.inj h
      exact r_ireturn rfl dX11_name_49 (hp)
    · rw [if_neg c24] at h
      by_cases c27 : v2 = 1
      · rw [if_pos c27] at h
        refine r_tableIn 50 dX11_name_13 c27 (by decide) (by decide) rfl (by decide) ?_
        refine r_aload_n 0 dX11_name_50 rfl rfl ?_
        obtain ⟨k25, hk25, h⟩ := b1_some h
        have ik25 := okL_is hk25
        refine r_getP (k := 0) (j := 11) sX_0 rfl fl_X11_89 hk25 dX11_name_51 ?_
        refine r_getC (k := k25) (j := 4) (r := k25 + 5) ik25.1 rfl fl_X11_350 dX11_name_54 ?_
        refine r_iload_n 1 dX11_name_57 rfl rfl ?_
        obtain ⟨x26, hx26, h⟩ := b1_some h
        refine r_iaload ik25.2.2.2.2.2 hx26 dX11_name_58 ?_
        obtain rfl := Option.some.inj h
        exact r_ireturn rfl dX11_name_59 (hp)
      · rw [if_neg c27] at h
        by_cases c30 : v2 = 2
        · rw [if_pos c30] at h
          refine r_tableIn 60 dX11_name_13 c30 (by decide) (by decide) rfl (by decide) ?_
          refine r_aload_n 0 dX11_name_60 rfl rfl ?_
          obtain ⟨k28, hk28, h⟩ := b1_some h
          have ik28 := okL_is hk28
          refine r_getP (k := 0) (j := 11) sX_0 rfl fl_X11_89 hk28 dX11_name_61 ?_
          refine r_iload_n 1 dX11_name_64 rfl rfl ?_
          refine r_iconst (v := (-1)) dX11_name_65 rfl ?_
          obtain ⟨x29, hx29, h⟩ := b1_some h
          refine r_callVi (k := k28) (rest := []) (by omega) (mX3_stepsToSell ik28 hx29) ik28.1 rfl rfl cb_X3_stepsToSell ml_X11_320 im_X3_stepsToSell se_X3_stepsToSell rfl rfl (Nat.le_of_ble_eq_true rfl) dX11_name_66 ?_
          obtain rfl := Option.some.inj h
          exact r_ireturn rfl dX11_name_69 (hp)
        · rw [if_neg c30] at h
          have nc24 : (v2 : Int32).toInt ≠ 0 := ne_toInt c24
          have nc27 : (v2 : Int32).toInt ≠ 1 := ne_toInt c27
          have nc30 : (v2 : Int32).toInt ≠ 2 := ne_toInt c30
          refine r_tableOut 70 dX11_name_13 (by omega) (by decide) ?_
          refine r_iconst (v := (-1)) dX11_name_70 rfl ?_
          obtain rfl := Option.some.inj h
          exact r_ireturn rfl dX11_name_71 (hp)
  · rw [if_pos c31] at h
    refine r_iconst (v := (-1)) dX11_name_10 rfl ?_
    obtain rfl := Option.some.inj h
    exact r_ireturn rfl dX11_name_11 (hp)
theorem mX11_name {G : Gx} {S : St} {v1 : Int32} {v2 : Int32} {o : Int32}  (h : fX11_name S v1 v2 = some o) : MR_ G shX 1 yX11_name cX11_name 3 (some .int) [.ref (ad_ G 0), .int v1, .int v2] S (PI_ o S) := MR_of cb_X11_name (Nat.le_of_ble_eq_true rfl) [(0, .ref (ad_ G 0)), (1, .int v1), (2, .int v2)] rfl (tX11_name  h ⟨rfl, rfl⟩)
set_option maxRecDepth 100000 in
set_option maxHeartbeats 4000000 in
theorem tX3_clash {G : Gx} {post : Option Value → St → Prop} {k0 : Nat} {S : St} {v1 : Int32} {o : Int32} (hk0 : IsLw k0) (h : fX3_clash k0 S v1 = some o) (hp : post (some (.int o)) S) : Rn G shX 0 yX3_clash cX3_clash 3 (some .boolean) 0 [(0, .ref (ad_ G k0)), (1, .int v1)] [] S post := by
  unfold fX3_clash at h
  refine r_iconst (v := 0) dX3_clash_0 rfl ?_
  refine r_istore_n (i := 2) [(0, .ref (ad_ G k0)), (1, .int v1), (2, .int 0)] [1, 2, 0] dX3_clash_1 rfl (by decide) rfl ?_
  have key : ∀ ex, lp (fun w21 : Int32 => bX3_clash_2 k0 S v1 w21) 5000 0 = some ex → (fun ex : (Unit) ⊕ Int32 => match ex with | .inl u27 => Rn G shX 0 yX3_clash cX3_clash 3 (some .boolean) 36 [] [] S post | .inr rr => post (some (.int rr)) S) ex → Rn G shX 0 yX3_clash cX3_clash 3 (some .boolean) 2 [(0, .ref (ad_ G k0)), (1, .int v1), (2, .int 0)] [] S post := by
    intro ex hl hx
    refine lp_rule (body := (fun w21 : Int32 => bX3_clash_2 k0 S v1 w21)) (R := (fun w21 : Int32 => Rn G shX 0 yX3_clash cX3_clash 3 (some .boolean) 2 [(0, .ref (ad_ G k0)), (1, .int v1), (2, .int w21)] [] S post)) (X := (fun ex : (Unit) ⊕ Int32 => match ex with | .inl u27 => Rn G shX 0 yX3_clash cX3_clash 3 (some .boolean) 36 [] [] S post | .inr rr => post (some (.int rr)) S)) ?_ 5000 0 ex hl hx
    intro w21 oo h hB hX
    obtain ⟨v22, rfl⟩ : ∃ z, z = w21 := ⟨_, rfl⟩
    replace h : bX3_clash_2 k0 S v1 v22 = some oo := h
    unfold bX3_clash_2 at h
    show Rn G shX 0 yX3_clash cX3_clash 3 (some .boolean) 2 [(0, .ref (ad_ G k0)), (1, .int v1), (2, .int v22)] [] S post
    refine r_iload_n 2 dX3_clash_2 rfl rfl ?_
    refine r_bipush (v := 8) dX3_clash_3 rfl ?_
    refine r_icmp_ge 36 dX3_clash_5 (by decide) (fun c26 => ?_) (fun c26 => ?_)
    · rw [if_pos c26] at h
      refine r_sub [] [] rfl ?_
      obtain rfl := Option.some.inj h
      exact hX (.inl ()) rfl
    · rw [if_neg c26] at h
      refine r_iload_n 1 dX3_clash_8 rfl rfl ?_
      refine r_iload_n 2 dX3_clash_9 rfl rfl ?_
      refine r_ishr dX3_clash_10 ?_
      refine r_iconst (v := 1) dX3_clash_11 rfl ?_
      refine r_iand dX3_clash_12 ?_
      refine r_iconst (v := 1) dX3_clash_13 rfl ?_
      refine r_icmp_ne 30 dX3_clash_14 (by decide) (fun c25 => ?_) (fun c25 => ?_)
      · rw [if_neg c25] at h
        refine r_iinc (v := v22 + 1) [(0, .ref (ad_ G k0)), (1, .int v1), (2, .int (v22 + 1))] 2 [1, 2, 0] dX3_clash_30 rfl rfl (by decide) rfl ?_
        refine r_goto 2 dX3_clash_33 (by decide) ?_
        obtain rfl := Option.some.inj h
        exact hB (v22 + 1) rfl
      · rw [if_pos c25] at h
        refine r_aload_n 0 dX3_clash_17 rfl rfl ?_
        refine r_getC (k := k0) (j := 2) (r := k0 + 3) hk0.1 rfl fl_X3_18 dX3_clash_18 ?_
        refine r_iload_n 2 dX3_clash_21 rfl rfl ?_
        obtain ⟨x23, hx23, h⟩ := b1_some h
        refine r_iaload hk0.2.2.2.1 hx23 dX3_clash_22 ?_
        refine r_iload_n 1 dX3_clash_23 rfl rfl ?_
        refine r_iand dX3_clash_24 ?_
        refine r_if_eq 30 dX3_clash_25 (by decide) (fun c24 => ?_) (fun c24 => ?_)
        · rw [if_pos c24] at h
          refine r_iinc (v := v22 + 1) [(0, .ref (ad_ G k0)), (1, .int v1), (2, .int (v22 + 1))] 2 [1, 2, 0] dX3_clash_30 rfl rfl (by decide) rfl ?_
          refine r_goto 2 dX3_clash_33 (by decide) ?_
          obtain rfl := Option.some.inj h
          exact hB (v22 + 1) rfl
        · rw [if_neg c24] at h
          refine r_iconst (v := 1) dX3_clash_28 rfl ?_
          obtain rfl := Option.some.inj h
          exact r_zreturn rfl (by decide) dX3_clash_29 (hX (.inr 1) rfl)
  rcases bs_some h with ⟨u27, hu27, h⟩ | ⟨rr, hu27, h⟩
  · refine key _ hu27 ?_
    show Rn G shX 0 yX3_clash cX3_clash 3 (some .boolean) 36 [] [] S post
    refine r_iconst (v := 0) dX3_clash_36 rfl ?_
    obtain rfl := Option.some.inj h
    exact r_zreturn rfl (by decide) dX3_clash_37 (hp)
  · refine key _ hu27 ?_
    show post (some (.int rr)) S
    obtain rfl := Option.some.inj h
    exact hp
theorem mX3_clash {G : Gx} {k0 : Nat} {S : St} {v1 : Int32} {o : Int32} (hk0 : IsLw k0) (h : fX3_clash k0 S v1 = some o) : MR_ G shX 0 yX3_clash cX3_clash 3 (some .boolean) [.ref (ad_ G k0), .int v1] S (PI_ o S) := MR_of cb_X3_clash (Nat.le_of_ble_eq_true rfl) [(0, .ref (ad_ G k0)), (1, .int v1)] rfl (tX3_clash hk0 h ⟨rfl, rfl⟩)
set_option maxRecDepth 100000 in
set_option maxHeartbeats 4000000 in
theorem tX3_lastYear {G : Gx} {post : Option Value → St → Prop} {k0 : Nat} {S : St} {v1 : Int32} {o : Int32} (hk0 : IsLw k0) (h : fX3_lastYear k0 S v1 = some o) (hp : post (some (.int o)) S) : Rn G shX 1 yX3_lastYear cX3_lastYear 4 (some .int) 0 [(0, .ref (ad_ G k0)), (1, .int v1)] [] S post := by
  unfold fX3_lastYear at h
  refine r_sipush (v := 2000) dX3_lastYear_0 rfl ?_
  refine r_istore_n (i := 2) [(0, .ref (ad_ G k0)), (1, .int v1), (2, .int 2000)] [1, 2, 0] dX3_lastYear_3 rfl (by decide) rfl ?_
  refine r_iconst (v := 0) dX3_lastYear_4 rfl ?_
  refine r_istore_n (i := 3) [(0, .ref (ad_ G k0)), (1, .int v1), (2, .int 2000), (3, .int 0)] [1, 2, 3, 0] dX3_lastYear_5 rfl (by decide) rfl ?_
  have key : ∀ ex, lp (fun w21 : Int32 × Int32 => bX3_lastYear_6 k0 S v1 w21.1 w21.2) 5000 (2000, 0) = some ex → (fun u27 : Int32 => Rn G shX 1 yX3_lastYear cX3_lastYear 4 (some .int) 38 [(2, .int u27)] [] S post) ex → Rn G shX 1 yX3_lastYear cX3_lastYear 4 (some .int) 6 [(0, .ref (ad_ G k0)), (1, .int v1), (2, .int 2000), (3, .int 0)] [] S post := by
    intro ex hl hx
    refine lp_rule (body := (fun w21 : Int32 × Int32 => bX3_lastYear_6 k0 S v1 w21.1 w21.2)) (R := (fun w21 : Int32 × Int32 => Rn G shX 1 yX3_lastYear cX3_lastYear 4 (some .int) 6 [(0, .ref (ad_ G k0)), (1, .int v1), (2, .int w21.1), (3, .int w21.2)] [] S post)) (X := (fun u27 : Int32 => Rn G shX 1 yX3_lastYear cX3_lastYear 4 (some .int) 38 [(2, .int u27)] [] S post)) ?_ 5000 (2000, 0) ex hl hx
    intro w21 oo h hB hX
    obtain ⟨v22, v23⟩ := w21
    replace h : bX3_lastYear_6 k0 S v1 v22 v23 = some oo := h
    unfold bX3_lastYear_6 at h
    show Rn G shX 1 yX3_lastYear cX3_lastYear 4 (some .int) 6 [(0, .ref (ad_ G k0)), (1, .int v1), (2, .int v22), (3, .int v23)] [] S post
    refine r_iload_n 3 dX3_lastYear_6 rfl rfl ?_
    refine r_bipush (v := 8) dX3_lastYear_7 rfl ?_
    refine r_icmp_ge 38 dX3_lastYear_9 (by decide) (fun c26 => ?_) (fun c26 => ?_)
    · rw [if_pos c26] at h
      refine r_sub [(2, .int v22)] [2] rfl ?_
      obtain rfl := Option.some.inj h
      exact hX v22 rfl
    · rw [if_neg c26] at h
      refine r_iload_n 1 dX3_lastYear_12 rfl rfl ?_
      refine r_iload_n 3 dX3_lastYear_13 rfl rfl ?_
      refine r_ishr dX3_lastYear_14 ?_
      refine r_iconst (v := 1) dX3_lastYear_15 rfl ?_
      refine r_iand dX3_lastYear_16 ?_
      refine r_iconst (v := 1) dX3_lastYear_17 rfl ?_
      refine r_icmp_ne 32 dX3_lastYear_18 (by decide) (fun c25 => ?_) (fun c25 => ?_)
      · rw [if_neg c25] at h
        refine r_iinc (v := v23 + 1) [(0, .ref (ad_ G k0)), (1, .int v1), (2, .int v22), (3, .int (v23 + 1))] 3 [1, 2, 3, 0] dX3_lastYear_32 rfl rfl (by decide) rfl ?_
        refine r_goto 6 dX3_lastYear_35 (by decide) ?_
        obtain rfl := Option.some.inj h
        exact hB (v22, v23 + 1) rfl
      · rw [if_pos c25] at h
        refine r_iload_n 2 dX3_lastYear_21 rfl rfl ?_
        refine r_aload_n 0 dX3_lastYear_22 rfl rfl ?_
        refine r_getC (k := k0) (j := 1) (r := k0 + 2) hk0.1 rfl fl_X3_15 dX3_lastYear_23 ?_
        refine r_iload_n 3 dX3_lastYear_26 rfl rfl ?_
        obtain ⟨x24, hx24, h⟩ := b1_some h
        refine r_iaload hk0.2.2.1 hx24 dX3_lastYear_27 ?_
        refine r_mmin (rest := []) (by omega) ml_X3_53 (Nat.le_of_ble_eq_true rfl) dX3_lastYear_28 ?_
        refine r_istore_n (i := 2) [(0, .ref (ad_ G k0)), (1, .int v1), (2, .int (mmin_ v22 x24)), (3, .int v23)] [1, 2, 0, 3] dX3_lastYear_31 rfl (by decide) rfl ?_
        refine r_iinc (v := v23 + 1) [(0, .ref (ad_ G k0)), (1, .int v1), (2, .int (mmin_ v22 x24)), (3, .int (v23 + 1))] 3 [1, 2, 3, 0] dX3_lastYear_32 rfl rfl (by decide) rfl ?_
        refine r_goto 6 dX3_lastYear_35 (by decide) ?_
        obtain rfl := Option.some.inj h
        exact hB (mmin_ v22 x24, v23 + 1) rfl
  obtain ⟨u27, hu27, h⟩ := b1_some h
  refine key u27 hu27 ?_
  show Rn G shX 1 yX3_lastYear cX3_lastYear 4 (some .int) 38 [(2, .int u27)] [] S post
  refine r_iload_n 0 dX3_lastYear_38 rfl rfl ?_
  obtain rfl := Option.some.inj h
  exact r_ireturn rfl dX3_lastYear_39 (hp)
theorem mX3_lastYear {G : Gx} {k0 : Nat} {S : St} {v1 : Int32} {o : Int32} (hk0 : IsLw k0) (h : fX3_lastYear k0 S v1 = some o) : MR_ G shX 1 yX3_lastYear cX3_lastYear 4 (some .int) [.ref (ad_ G k0), .int v1] S (PI_ o S) := MR_of cb_X3_lastYear (Nat.le_of_ble_eq_true rfl) [(0, .ref (ad_ G k0)), (1, .int v1)] rfl (tX3_lastYear hk0 h ⟨rfl, rfl⟩)
set_option maxRecDepth 100000 in
set_option maxHeartbeats 4000000 in
theorem tX3_firstYear {G : Gx} {post : Option Value → St → Prop} {k0 : Nat} {S : St} {v1 : Int32} {o : Int32} (hk0 : IsLw k0) (h : fX3_firstYear k0 S v1 = some o) (hp : post (some (.int o)) S) : Rn G shX 1 yX3_firstYear cX3_firstYear 4 (some .int) 0 [(0, .ref (ad_ G k0)), (1, .int v1)] [] S post := by
  unfold fX3_firstYear at h
  refine r_sipush (v := 1800) dX3_firstYear_0 rfl ?_
  refine r_istore_n (i := 2) [(0, .ref (ad_ G k0)), (1, .int v1), (2, .int 1800)] [1, 2, 0] dX3_firstYear_3 rfl (by decide) rfl ?_
  refine r_iconst (v := 0) dX3_firstYear_4 rfl ?_
  refine r_istore_n (i := 3) [(0, .ref (ad_ G k0)), (1, .int v1), (2, .int 1800), (3, .int 0)] [1, 2, 3, 0] dX3_firstYear_5 rfl (by decide) rfl ?_
  have key : ∀ ex, lp (fun w21 : Int32 × Int32 => bX3_firstYear_6 k0 S v1 w21.1 w21.2) 5000 (1800, 0) = some ex → (fun u27 : Int32 => Rn G shX 1 yX3_firstYear cX3_firstYear 4 (some .int) 38 [(2, .int u27)] [] S post) ex → Rn G shX 1 yX3_firstYear cX3_firstYear 4 (some .int) 6 [(0, .ref (ad_ G k0)), (1, .int v1), (2, .int 1800), (3, .int 0)] [] S post := by
    intro ex hl hx
    refine lp_rule (body := (fun w21 : Int32 × Int32 => bX3_firstYear_6 k0 S v1 w21.1 w21.2)) (R := (fun w21 : Int32 × Int32 => Rn G shX 1 yX3_firstYear cX3_firstYear 4 (some .int) 6 [(0, .ref (ad_ G k0)), (1, .int v1), (2, .int w21.1), (3, .int w21.2)] [] S post)) (X := (fun u27 : Int32 => Rn G shX 1 yX3_firstYear cX3_firstYear 4 (some .int) 38 [(2, .int u27)] [] S post)) ?_ 5000 (1800, 0) ex hl hx
    intro w21 oo h hB hX
    obtain ⟨v22, v23⟩ := w21
    replace h : bX3_firstYear_6 k0 S v1 v22 v23 = some oo := h
    unfold bX3_firstYear_6 at h
    show Rn G shX 1 yX3_firstYear cX3_firstYear 4 (some .int) 6 [(0, .ref (ad_ G k0)), (1, .int v1), (2, .int v22), (3, .int v23)] [] S post
    refine r_iload_n 3 dX3_firstYear_6 rfl rfl ?_
    refine r_bipush (v := 8) dX3_firstYear_7 rfl ?_
    refine r_icmp_ge 38 dX3_firstYear_9 (by decide) (fun c26 => ?_) (fun c26 => ?_)
    · rw [if_pos c26] at h
      refine r_sub [(2, .int v22)] [2] rfl ?_
      obtain rfl := Option.some.inj h
      exact hX v22 rfl
    · rw [if_neg c26] at h
      refine r_iload_n 1 dX3_firstYear_12 rfl rfl ?_
      refine r_iload_n 3 dX3_firstYear_13 rfl rfl ?_
      refine r_ishr dX3_firstYear_14 ?_
      refine r_iconst (v := 1) dX3_firstYear_15 rfl ?_
      refine r_iand dX3_firstYear_16 ?_
      refine r_iconst (v := 1) dX3_firstYear_17 rfl ?_
      refine r_icmp_ne 32 dX3_firstYear_18 (by decide) (fun c25 => ?_) (fun c25 => ?_)
      · rw [if_neg c25] at h
        refine r_iinc (v := v23 + 1) [(0, .ref (ad_ G k0)), (1, .int v1), (2, .int v22), (3, .int (v23 + 1))] 3 [1, 2, 3, 0] dX3_firstYear_32 rfl rfl (by decide) rfl ?_
        refine r_goto 6 dX3_firstYear_35 (by decide) ?_
        obtain rfl := Option.some.inj h
        exact hB (v22, v23 + 1) rfl
      · rw [if_pos c25] at h
        refine r_iload_n 2 dX3_firstYear_21 rfl rfl ?_
        refine r_aload_n 0 dX3_firstYear_22 rfl rfl ?_
        refine r_getC (k := k0) (j := 0) (r := k0 + 1) hk0.1 rfl fl_X3_9 dX3_firstYear_23 ?_
        refine r_iload_n 3 dX3_firstYear_26 rfl rfl ?_
        obtain ⟨x24, hx24, h⟩ := b1_some h
        refine r_iaload hk0.2.1 hx24 dX3_firstYear_27 ?_
        refine r_mmax (rest := []) (by omega) ml_X3_47 (Nat.le_of_ble_eq_true rfl) dX3_firstYear_28 ?_
        refine r_istore_n (i := 2) [(0, .ref (ad_ G k0)), (1, .int v1), (2, .int (mmax_ v22 x24)), (3, .int v23)] [1, 2, 0, 3] dX3_firstYear_31 rfl (by decide) rfl ?_
        refine r_iinc (v := v23 + 1) [(0, .ref (ad_ G k0)), (1, .int v1), (2, .int (mmax_ v22 x24)), (3, .int (v23 + 1))] 3 [1, 2, 3, 0] dX3_firstYear_32 rfl rfl (by decide) rfl ?_
        refine r_goto 6 dX3_firstYear_35 (by decide) ?_
        obtain rfl := Option.some.inj h
        exact hB (mmax_ v22 x24, v23 + 1) rfl
  obtain ⟨u27, hu27, h⟩ := b1_some h
  refine key u27 hu27 ?_
  show Rn G shX 1 yX3_firstYear cX3_firstYear 4 (some .int) 38 [(2, .int u27)] [] S post
  refine r_iload_n 0 dX3_firstYear_38 rfl rfl ?_
  obtain rfl := Option.some.inj h
  exact r_ireturn rfl dX3_firstYear_39 (hp)
theorem mX3_firstYear {G : Gx} {k0 : Nat} {S : St} {v1 : Int32} {o : Int32} (hk0 : IsLw k0) (h : fX3_firstYear k0 S v1 = some o) : MR_ G shX 1 yX3_firstYear cX3_firstYear 4 (some .int) [.ref (ad_ G k0), .int v1] S (PI_ o S) := MR_of cb_X3_firstYear (Nat.le_of_ble_eq_true rfl) [(0, .ref (ad_ G k0)), (1, .int v1)] rfl (tX3_firstYear hk0 h ⟨rfl, rfl⟩)
set_option maxRecDepth 100000 in
set_option maxHeartbeats 4000000 in
theorem tX3_yearCount {G : Gx} {post : Option Value → St → Prop} {k0 : Nat} {S : St} {v1 : Int32} {o : Int32} (hk0 : IsLw k0) (h : fX3_yearCount k0 S v1 = some o) (hp : post (some (.int o)) S) : Rn G shX 2 yX3_yearCount cX3_yearCount 2 (some .int) 0 [(0, .ref (ad_ G k0)), (1, .int v1)] [] S post := by
  unfold fX3_yearCount at h
  refine r_aload_n 0 dX3_yearCount_0 rfl rfl ?_
  refine r_iload_n 1 dX3_yearCount_1 rfl rfl ?_
  obtain ⟨x21, hx21, h⟩ := b1_some h
  refine r_callVi (k := k0) (rest := []) (by omega) (mX3_clash hk0 hx21) hk0.1 rfl rfl cb_X3_clash ml_X3_56 im_X3_clash se_X3_clash rfl rfl (Nat.le_of_ble_eq_true rfl) dX3_yearCount_2 ?_
  refine r_if_eq 12 dX3_yearCount_5 (by decide) (fun c24 => ?_) (fun c24 => ?_)
  · rw [if_pos c24] at h
    refine r_iconst (v := 0) dX3_yearCount_12 rfl ?_
    refine r_aload_n 0 dX3_yearCount_13 rfl rfl ?_
    refine r_iload_n 1 dX3_yearCount_14 rfl rfl ?_
    obtain ⟨x22, hx22, h⟩ := b1_some h
    refine r_callVi (k := k0) (rest := [.int 0]) (by omega) (mX3_lastYear hk0 hx22) hk0.1 rfl rfl cb_X3_lastYear ml_X3_60 im_X3_lastYear se_X3_lastYear rfl rfl (Nat.le_of_ble_eq_true rfl) dX3_yearCount_15 ?_
    refine r_aload_n 0 dX3_yearCount_18 rfl rfl ?_
    refine r_iload_n 1 dX3_yearCount_19 rfl rfl ?_
    obtain ⟨x23, hx23, h⟩ := b1_some h
    refine r_callVi (k := k0) (rest := [.int x22, .int 0]) (by omega) (mX3_firstYear hk0 hx23) hk0.1 rfl rfl cb_X3_firstYear ml_X3_64 im_X3_firstYear se_X3_firstYear rfl rfl (Nat.le_of_ble_eq_true rfl) dX3_yearCount_20 ?_
    refine r_isub dX3_yearCount_23 ?_
    refine r_iconst (v := 1) dX3_yearCount_24 rfl ?_
    refine r_iadd dX3_yearCount_25 ?_
    refine r_mmax (rest := []) (by omega) ml_X3_47 (Nat.le_of_ble_eq_true rfl) dX3_yearCount_26 ?_
    obtain rfl := Option.some.inj h
    exact r_ireturn rfl dX3_yearCount_29 (hp)
  · rw [if_neg c24] at h
    refine r_iconst (v := 0) dX3_yearCount_8 rfl ?_
    refine r_goto 29 dX3_yearCount_9 (by decide) ?_
    obtain rfl := Option.some.inj h
    exact r_ireturn rfl dX3_yearCount_29 (hp)
theorem mX3_yearCount {G : Gx} {k0 : Nat} {S : St} {v1 : Int32} {o : Int32} (hk0 : IsLw k0) (h : fX3_yearCount k0 S v1 = some o) : MR_ G shX 2 yX3_yearCount cX3_yearCount 2 (some .int) [.ref (ad_ G k0), .int v1] S (PI_ o S) := MR_of cb_X3_yearCount (Nat.le_of_ble_eq_true rfl) [(0, .ref (ad_ G k0)), (1, .int v1)] rfl (tX3_yearCount hk0 h ⟨rfl, rfl⟩)
set_option maxRecDepth 100000 in
set_option maxHeartbeats 4000000 in
theorem tX11_years {G : Gx} {post : Option Value → St → Prop} {S : St} {v1 : Int32} {v2 : Int32} {o : Int32}  (h : fX11_years S v1 v2 = some o) (hp : post (some (.int o)) S) : Rn G shX 3 yX11_years cX11_years 5 (some .int) 0 [(0, .ref (ad_ G 0)), (1, .int v1), (2, .int v2)] [] S post := by
  unfold fX11_years at h
  refine r_aload_n 0 dX11_years_0 rfl rfl ?_
  refine r_getC (k := 0) (j := 8) (r := 49) sX_0 rfl fl_X11_66 dX11_years_1 ?_
  refine r_iload_n 1 dX11_years_4 rfl rfl ?_
  obtain ⟨x21, hx21, h⟩ := b1_some h
  refine r_callVi (k := 49) (rest := []) (by omega) (mX5_has hx21) sX_49 rfl rfl cb_X5_has ml_X11_298 im_X5_has se_X5_has rfl rfl (Nat.le_of_ble_eq_true rfl) dX11_years_5 ?_
  refine r_if_eq 20 dX11_years_8 (by decide) (fun c34 => ?_) (fun c34 => ?_)
  · rw [if_pos c34] at h
    refine r_iconst (v := (-1)) dX11_years_20 rfl ?_
    obtain rfl := Option.some.inj h
    exact r_ireturn rfl dX11_years_21 (hp)
  · rw [if_neg c34] at h
    refine r_iload_n 2 dX11_years_11 rfl rfl ?_
    refine r_iconst (v := 0) dX11_years_12 rfl ?_
    refine r_iconst (v := 2) dX11_years_13 rfl ?_
    obtain ⟨x22, hx22, h⟩ := b1_some h
    refine r_callSi (rest := []) (by omega) (mX11_within hx22) cb_X11_within ml_X11_103 sm_X11_within rfl rfl (Nat.le_of_ble_eq_true rfl) dX11_years_14 ?_
    refine r_if_ne 22 dX11_years_17 (by decide) (fun c33 => ?_) (fun c33 => ?_)
    · rw [if_neg c33] at h
      refine r_aload_n 0 dX11_years_22 rfl rfl ?_
      refine r_getC (k := 0) (j := 8) (r := 49) sX_0 rfl fl_X11_66 dX11_years_23 ?_
      refine r_getC (k := 49) (j := 3) (r := 53) sX_49 rfl fl_X11_308 dX11_years_26 ?_
      refine r_iload_n 1 dX11_years_29 rfl rfl ?_
      obtain ⟨x23, hx23, h⟩ := b1_some h
      refine r_iaload sX_53 hx23 dX11_years_30 ?_
      refine r_istore_n (i := 3) [(0, .ref (ad_ G 0)), (1, .int v1), (2, .int v2), (3, .int x23)] [1, 2, 3, 0] dX11_years_31 rfl (by decide) rfl ?_
      refine r_aload_n 0 dX11_years_32 rfl rfl ?_
      obtain ⟨k24, hk24, h⟩ := b1_some h
      have ik24 := okL_is hk24
      refine r_getP (k := 0) (j := 11) sX_0 rfl fl_X11_89 hk24 dX11_years_33 ?_
      refine r_iload_n 3 dX11_years_36 rfl rfl ?_
      obtain ⟨x25, hx25, h⟩ := b1_some h
      refine r_callVi (k := k24) (rest := []) (by omega) (mX3_yearCount ik24 hx25) ik24.1 rfl rfl cb_X3_yearCount ml_X11_353 im_X3_yearCount se_X3_yearCount rfl rfl (Nat.le_of_ble_eq_true rfl) dX11_years_37 ?_
      refine r_istore (i := 4) [(0, .ref (ad_ G 0)), (1, .int v1), (2, .int v2), (3, .int x23), (4, .int x25)] [1, 2, 3, 4, 0] dX11_years_40 (by decide) rfl ?_
      refine r_iload_n 2 dX11_years_42 rfl rfl ?_
      refine r_if_ne 49 dX11_years_43 (by decide) (fun c32 => ?_) (fun c32 => ?_)
      · rw [if_neg c32] at h
        refine r_iload 4 dX11_years_49 rfl ?_
        refine r_if_ne 57 dX11_years_51 (by decide) (fun c31 => ?_) (fun c31 => ?_)
        · rw [if_neg c31] at h
          refine r_iload_n 2 dX11_years_57 rfl rfl ?_
          refine r_iconst (v := 1) dX11_years_58 rfl ?_
          refine r_icmp_ne 73 dX11_years_59 (by decide) (fun c30 => ?_) (fun c30 => ?_)
          · rw [if_neg c30] at h
            refine r_aload_n 0 dX11_years_73 rfl rfl ?_
            obtain ⟨k26, hk26, h⟩ := b1_some h
            have ik26 := okL_is hk26
            refine r_getP (k := 0) (j := 11) sX_0 rfl fl_X11_89 hk26 dX11_years_74 ?_
            refine r_iload_n 3 dX11_years_77 rfl rfl ?_
            obtain ⟨x27, hx27, h⟩ := b1_some h
            refine r_callVi (k := k26) (rest := []) (by omega) (mX3_lastYear ik26 hx27) ik26.1 rfl rfl cb_X3_lastYear ml_X11_359 im_X3_lastYear se_X3_lastYear rfl rfl (Nat.le_of_ble_eq_true rfl) dX11_years_78 ?_
            obtain rfl := Option.some.inj h
            exact r_ireturn rfl dX11_years_81 (hp)
          · rw [if_pos c30] at h
            refine r_aload_n 0 dX11_years_62 rfl rfl ?_
            obtain ⟨k28, hk28, h⟩ := b1_some h
            have ik28 := okL_is hk28
            refine r_getP (k := 0) (j := 11) sX_0 rfl fl_X11_89 hk28 dX11_years_63 ?_
            refine r_iload_n 3 dX11_years_66 rfl rfl ?_
            obtain ⟨x29, hx29, h⟩ := b1_some h
            refine r_callVi (k := k28) (rest := []) (by omega) (mX3_firstYear ik28 hx29) ik28.1 rfl rfl cb_X3_firstYear ml_X11_356 im_X3_firstYear se_X3_firstYear rfl rfl (Nat.le_of_ble_eq_true rfl) dX11_years_67 ?_
            refine r_goto 81 dX11_years_70 (by decide) ?_
            obtain rfl := Option.some.inj h
            exact r_ireturn rfl dX11_years_81 (hp)
        · rw [if_pos c31] at h
          refine r_bipush (v := (-4)) dX11_years_54 rfl ?_
          obtain rfl := Option.some.inj h
          exact r_ireturn rfl dX11_years_56 (hp)
      · rw [if_pos c32] at h
        refine r_iload 4 dX11_years_46 rfl ?_
        obtain rfl := Option.some.inj h
        exact r_ireturn rfl dX11_years_48 (hp)
    · rw [if_pos c33] at h
      refine r_iconst (v := (-1)) dX11_years_20 rfl ?_
      obtain rfl := Option.some.inj h
      exact r_ireturn rfl dX11_years_21 (hp)
theorem mX11_years {G : Gx} {S : St} {v1 : Int32} {v2 : Int32} {o : Int32}  (h : fX11_years S v1 v2 = some o) : MR_ G shX 3 yX11_years cX11_years 5 (some .int) [.ref (ad_ G 0), .int v1, .int v2] S (PI_ o S) := MR_of cb_X11_years (Nat.le_of_ble_eq_true rfl) [(0, .ref (ad_ G 0)), (1, .int v1), (2, .int v2)] rfl (tX11_years  h ⟨rfl, rfl⟩)
set_option maxRecDepth 100000 in
set_option maxHeartbeats 4000000 in
theorem tX3_mayBeOf {G : Gx} {post : Option Value → St → Prop} {k0 : Nat} {S : St} {v1 : Int32} {v2 : Int32} {o : Int32} (hk0 : IsLw k0) (h : fX3_mayBeOf k0 S v1 v2 = some o) (hp : post (some (.int o)) S) : Rn G shX 2 yX3_mayBeOf cX3_mayBeOf 3 (some .boolean) 0 [(0, .ref (ad_ G k0)), (1, .int v1), (2, .int v2)] [] S post := by
  unfold fX3_mayBeOf at h
  refine r_aload_n 0 dX3_mayBeOf_0 rfl rfl ?_
  refine r_iload_n 1 dX3_mayBeOf_1 rfl rfl ?_
  obtain ⟨x21, hx21, h⟩ := b1_some h
  refine r_callVi (k := k0) (rest := []) (by omega) (mX3_clash hk0 hx21) hk0.1 rfl rfl cb_X3_clash ml_X3_56 im_X3_clash se_X3_clash rfl rfl (Nat.le_of_ble_eq_true rfl) dX3_mayBeOf_2 ?_
  refine r_if_ne 29 dX3_mayBeOf_5 (by decide) (fun c26 => ?_) (fun c26 => ?_)
  · rw [if_neg c26] at h
    refine r_iconst (v := 0) dX3_mayBeOf_29 rfl ?_
    obtain rfl := Option.some.inj h
    exact r_zreturn rfl (by decide) dX3_mayBeOf_30 (hp)
  · rw [if_pos c26] at h
    refine r_iload_n 2 dX3_mayBeOf_8 rfl rfl ?_
    refine r_aload_n 0 dX3_mayBeOf_9 rfl rfl ?_
    refine r_iload_n 1 dX3_mayBeOf_10 rfl rfl ?_
    obtain ⟨x22, hx22, h⟩ := b1_some h
    refine r_callVi (k := k0) (rest := [.int v2]) (by omega) (mX3_firstYear hk0 hx22) hk0.1 rfl rfl cb_X3_firstYear ml_X3_64 im_X3_firstYear se_X3_firstYear rfl rfl (Nat.le_of_ble_eq_true rfl) dX3_mayBeOf_11 ?_
    refine r_aload_n 0 dX3_mayBeOf_14 rfl rfl ?_
    refine r_iload_n 1 dX3_mayBeOf_15 rfl rfl ?_
    obtain ⟨x23, hx23, h⟩ := b1_some h
    refine r_callVi (k := k0) (rest := [.int x22, .int v2]) (by omega) (mX3_lastYear hk0 hx23) hk0.1 rfl rfl cb_X3_lastYear ml_X3_60 im_X3_lastYear se_X3_lastYear rfl rfl (Nat.le_of_ble_eq_true rfl) dX3_mayBeOf_16 ?_
    obtain ⟨x24, hx24, h⟩ := b1_some h
    refine r_callSNi (rest := []) (by omega) (mX11_within hx24) cb_X11_within (by decide) sm_X11_within rfl rfl (Nat.le_of_ble_eq_true rfl) dX3_mayBeOf_19 ?_
    refine r_if_eq 29 dX3_mayBeOf_22 (by decide) (fun c25 => ?_) (fun c25 => ?_)
    · rw [if_pos c25] at h
      refine r_iconst (v := 0) dX3_mayBeOf_29 rfl ?_
      obtain rfl := Option.some.inj h
      exact r_zreturn rfl (by decide) dX3_mayBeOf_30 (hp)
    · rw [if_neg c25] at h
      refine r_iconst (v := 1) dX3_mayBeOf_25 rfl ?_
      refine r_goto 30 dX3_mayBeOf_26 (by decide) ?_
      obtain rfl := Option.some.inj h
      exact r_zreturn rfl (by decide) dX3_mayBeOf_30 (hp)
theorem mX3_mayBeOf {G : Gx} {k0 : Nat} {S : St} {v1 : Int32} {v2 : Int32} {o : Int32} (hk0 : IsLw k0) (h : fX3_mayBeOf k0 S v1 v2 = some o) : MR_ G shX 2 yX3_mayBeOf cX3_mayBeOf 3 (some .boolean) [.ref (ad_ G k0), .int v1, .int v2] S (PI_ o S) := MR_of cb_X3_mayBeOf (Nat.le_of_ble_eq_true rfl) [(0, .ref (ad_ G k0)), (1, .int v1), (2, .int v2)] rfl (tX3_mayBeOf hk0 h ⟨rfl, rfl⟩)
set_option maxRecDepth 100000 in
set_option maxHeartbeats 4000000 in
theorem tX11_dated {G : Gx} {post : Option Value → St → Prop} {S : St} {v1 : Int32} {o : Int32}  (h : fX11_dated S v1 = some o) (hp : post (some (.int o)) S) : Rn G shX 3 yX11_dated cX11_dated 4 (some .int) 0 [(0, .ref (ad_ G 0)), (1, .int v1)] [] S post := by
  unfold fX11_dated at h
  refine r_iload_n 1 dX11_dated_0 rfl rfl ?_
  refine r_sipush (v := 1800) dX11_dated_1 rfl ?_
  refine r_sipush (v := 2000) dX11_dated_4 rfl ?_
  obtain ⟨x21, hx21, h⟩ := b1_some h
  refine r_callSi (rest := []) (by omega) (mX11_within hx21) cb_X11_within ml_X11_103 sm_X11_within rfl rfl (Nat.le_of_ble_eq_true rfl) dX11_dated_7 ?_
  refine r_if_ne 15 dX11_dated_10 (by decide) (fun c31 => ?_) (fun c31 => ?_)
  · rw [if_neg c31] at h
    refine r_iconst (v := 0) dX11_dated_15 rfl ?_
    refine r_istore_n (i := 2) [(0, .ref (ad_ G 0)), (1, .int v1), (2, .int 0)] [1, 2, 0] dX11_dated_16 rfl (by decide) rfl ?_
    refine r_iconst (v := 0) dX11_dated_17 rfl ?_
    refine r_istore_n (i := 3) [(0, .ref (ad_ G 0)), (1, .int v1), (2, .int 0), (3, .int 0)] [1, 2, 3, 0] dX11_dated_18 rfl (by decide) rfl ?_
    have key : ∀ ex, lp (fun w22 : Int32 × Int32 => bX11_dated_19 S v1 w22.1 w22.2) 5000 (0, 0) = some ex → (fun u30 : Int32 => Rn G shX 3 yX11_dated cX11_dated 4 (some .int) 59 [(2, .int u30)] [] S post) ex → Rn G shX 3 yX11_dated cX11_dated 4 (some .int) 19 [(0, .ref (ad_ G 0)), (1, .int v1), (2, .int 0), (3, .int 0)] [] S post := by
      intro ex hl hx
      refine lp_rule (body := (fun w22 : Int32 × Int32 => bX11_dated_19 S v1 w22.1 w22.2)) (R := (fun w22 : Int32 × Int32 => Rn G shX 3 yX11_dated cX11_dated 4 (some .int) 19 [(0, .ref (ad_ G 0)), (1, .int v1), (2, .int w22.1), (3, .int w22.2)] [] S post)) (X := (fun u30 : Int32 => Rn G shX 3 yX11_dated cX11_dated 4 (some .int) 59 [(2, .int u30)] [] S post)) ?_ 5000 (0, 0) ex hl hx
      intro w22 oo h hB hX
      obtain ⟨v23, v24⟩ := w22
      replace h : bX11_dated_19 S v1 v23 v24 = some oo := h
      unfold bX11_dated_19 at h
      show Rn G shX 3 yX11_dated cX11_dated 4 (some .int) 19 [(0, .ref (ad_ G 0)), (1, .int v1), (2, .int v23), (3, .int v24)] [] S post
      refine r_iload_n 3 dX11_dated_19 rfl rfl ?_
      refine r_aload_n 0 dX11_dated_20 rfl rfl ?_
      refine r_getC (k := 0) (j := 8) (r := 49) sX_0 rfl fl_X11_66 dX11_dated_21 ?_
      refine r_getI (k := 49) (j := 6) sX_49 rfl fl_X11_292 dX11_dated_24 ?_
      refine r_icmp_ge 59 dX11_dated_27 (by decide) (fun c29 => ?_) (fun c29 => ?_)
      · rw [if_pos c29] at h
        refine r_sub [(2, .int v23)] [2] rfl ?_
        obtain rfl := Option.some.inj h
        exact hX v23 rfl
      · rw [if_neg c29] at h
        refine r_aload_n 0 dX11_dated_30 rfl rfl ?_
        obtain ⟨k25, hk25, h⟩ := b1_some h
        have ik25 := okL_is hk25
        refine r_getP (k := 0) (j := 11) sX_0 rfl fl_X11_89 hk25 dX11_dated_31 ?_
        refine r_aload_n 0 dX11_dated_34 rfl rfl ?_
        refine r_getC (k := 0) (j := 8) (r := 49) sX_0 rfl fl_X11_66 dX11_dated_35 ?_
        refine r_getC (k := 49) (j := 3) (r := 53) sX_49 rfl fl_X11_308 dX11_dated_38 ?_
        refine r_iload_n 3 dX11_dated_41 rfl rfl ?_
        obtain ⟨x26, hx26, h⟩ := b1_some h
        refine r_iaload sX_53 hx26 dX11_dated_42 ?_
        refine r_iload_n 1 dX11_dated_43 rfl rfl ?_
        obtain ⟨x27, hx27, h⟩ := b1_some h
        refine r_callVi (k := k25) (rest := []) (by omega) (mX3_mayBeOf ik25 hx27) ik25.1 rfl rfl cb_X3_mayBeOf ml_X11_362 im_X3_mayBeOf se_X3_mayBeOf rfl rfl (Nat.le_of_ble_eq_true rfl) dX11_dated_44 ?_
        refine r_if_eq 53 dX11_dated_47 (by decide) (fun c28 => ?_) (fun c28 => ?_)
        · rw [if_pos c28] at h
          refine r_iinc (v := v24 + 1) [(0, .ref (ad_ G 0)), (1, .int v1), (2, .int v23), (3, .int (v24 + 1))] 3 [1, 2, 3, 0] dX11_dated_53 rfl rfl (by decide) rfl ?_
          refine r_goto 19 dX11_dated_56 (by decide) ?_
          obtain rfl := Option.some.inj h
          exact hB (v23, v24 + 1) rfl
        · rw [if_neg c28] at h
          refine r_iinc (v := v23 + 1) [(0, .ref (ad_ G 0)), (1, .int v1), (2, .int (v23 + 1)), (3, .int v24)] 2 [1, 2, 0, 3] dX11_dated_50 rfl rfl (by decide) rfl ?_
          refine r_iinc (v := v24 + 1) [(0, .ref (ad_ G 0)), (1, .int v1), (2, .int (v23 + 1)), (3, .int (v24 + 1))] 3 [1, 2, 3, 0] dX11_dated_53 rfl rfl (by decide) rfl ?_
          refine r_goto 19 dX11_dated_56 (by decide) ?_
          obtain rfl := Option.some.inj h
          exact hB (v23 + 1, v24 + 1) rfl
    obtain ⟨u30, hu30, h⟩ := b1_some h
    refine key u30 hu30 ?_
    show Rn G shX 3 yX11_dated cX11_dated 4 (some .int) 59 [(2, .int u30)] [] S post
    refine r_iload_n 0 dX11_dated_59 rfl rfl ?_
    obtain rfl := Option.some.inj h
    exact r_ireturn rfl dX11_dated_60 (hp)
  · rw [if_pos c31] at h
    refine r_iconst (v := (-1)) dX11_dated_13 rfl ?_
    obtain rfl := Option.some.inj h
    exact r_ireturn rfl dX11_dated_14 (hp)
theorem mX11_dated {G : Gx} {S : St} {v1 : Int32} {o : Int32}  (h : fX11_dated S v1 = some o) : MR_ G shX 3 yX11_dated cX11_dated 4 (some .int) [.ref (ad_ G 0), .int v1] S (PI_ o S) := MR_of cb_X11_dated (Nat.le_of_ble_eq_true rfl) [(0, .ref (ad_ G 0)), (1, .int v1)] rfl (tX11_dated  h ⟨rfl, rfl⟩)
set_option maxRecDepth 100000 in
set_option maxHeartbeats 4000000 in
theorem tX5_howMany {G : Gx} {post : Option Value → St → Prop} {S : St} {v1 : Int32} {o : Int32}  (h : fX5_howMany S v1 = some o) (hp : post (some (.int o)) S) : Rn G shX 0 yX5_howMany cX5_howMany 4 (some .int) 0 [(0, .ref (ad_ G 49)), (1, .int v1)] [] S post := by
  unfold fX5_howMany at h
  refine r_iconst (v := 0) dX5_howMany_0 rfl ?_
  refine r_istore_n (i := 2) [(0, .ref (ad_ G 49)), (1, .int v1), (2, .int 0)] [1, 2, 0] dX5_howMany_1 rfl (by decide) rfl ?_
  refine r_iconst (v := 0) dX5_howMany_2 rfl ?_
  refine r_istore_n (i := 3) [(0, .ref (ad_ G 49)), (1, .int v1), (2, .int 0), (3, .int 0)] [1, 2, 3, 0] dX5_howMany_3 rfl (by decide) rfl ?_
  have key : ∀ ex, lp (fun w21 : Int32 × Int32 => bX5_howMany_4 S v1 w21.1 w21.2) 5000 (0, 0) = some ex → (fun u27 : Int32 => Rn G shX 0 yX5_howMany cX5_howMany 4 (some .int) 31 [(2, .int u27)] [] S post) ex → Rn G shX 0 yX5_howMany cX5_howMany 4 (some .int) 4 [(0, .ref (ad_ G 49)), (1, .int v1), (2, .int 0), (3, .int 0)] [] S post := by
    intro ex hl hx
    refine lp_rule (body := (fun w21 : Int32 × Int32 => bX5_howMany_4 S v1 w21.1 w21.2)) (R := (fun w21 : Int32 × Int32 => Rn G shX 0 yX5_howMany cX5_howMany 4 (some .int) 4 [(0, .ref (ad_ G 49)), (1, .int v1), (2, .int w21.1), (3, .int w21.2)] [] S post)) (X := (fun u27 : Int32 => Rn G shX 0 yX5_howMany cX5_howMany 4 (some .int) 31 [(2, .int u27)] [] S post)) ?_ 5000 (0, 0) ex hl hx
    intro w21 oo h hB hX
    obtain ⟨v22, v23⟩ := w21
    replace h : bX5_howMany_4 S v1 v22 v23 = some oo := h
    unfold bX5_howMany_4 at h
    show Rn G shX 0 yX5_howMany cX5_howMany 4 (some .int) 4 [(0, .ref (ad_ G 49)), (1, .int v1), (2, .int v22), (3, .int v23)] [] S post
    refine r_iload_n 3 dX5_howMany_4 rfl rfl ?_
    refine r_aload_n 0 dX5_howMany_5 rfl rfl ?_
    refine r_getI (k := 49) (j := 6) sX_49 rfl fl_X5_30 dX5_howMany_6 ?_
    refine r_icmp_ge 31 dX5_howMany_9 (by decide) (fun c26 => ?_) (fun c26 => ?_)
    · rw [if_pos c26] at h
      refine r_sub [(2, .int v22)] [2] rfl ?_
      obtain rfl := Option.some.inj h
      exact hX v22 rfl
    · rw [if_neg c26] at h
      refine r_aload_n 0 dX5_howMany_12 rfl rfl ?_
      refine r_getC (k := 49) (j := 0) (r := 50) sX_49 rfl fl_X5_9 dX5_howMany_13 ?_
      refine r_iload_n 3 dX5_howMany_16 rfl rfl ?_
      obtain ⟨x24, hx24, h⟩ := b1_some h
      refine r_iaload sX_50 hx24 dX5_howMany_17 ?_
      refine r_iload_n 1 dX5_howMany_18 rfl rfl ?_
      refine r_icmp_ne 25 dX5_howMany_19 (by decide) (fun c25 => ?_) (fun c25 => ?_)
      · rw [if_neg c25] at h
        refine r_iinc (v := v23 + 1) [(0, .ref (ad_ G 49)), (1, .int v1), (2, .int v22), (3, .int (v23 + 1))] 3 [1, 2, 3, 0] dX5_howMany_25 rfl rfl (by decide) rfl ?_
        refine r_goto 4 dX5_howMany_28 (by decide) ?_
        obtain rfl := Option.some.inj h
        exact hB (v22, v23 + 1) rfl
      · rw [if_pos c25] at h
        refine r_iinc (v := v22 + 1) [(0, .ref (ad_ G 49)), (1, .int v1), (2, .int (v22 + 1)), (3, .int v23)] 2 [1, 2, 0, 3] dX5_howMany_22 rfl rfl (by decide) rfl ?_
        refine r_iinc (v := v23 + 1) [(0, .ref (ad_ G 49)), (1, .int v1), (2, .int (v22 + 1)), (3, .int (v23 + 1))] 3 [1, 2, 3, 0] dX5_howMany_25 rfl rfl (by decide) rfl ?_
        refine r_goto 4 dX5_howMany_28 (by decide) ?_
        obtain rfl := Option.some.inj h
        exact hB (v22 + 1, v23 + 1) rfl
  obtain ⟨u27, hu27, h⟩ := b1_some h
  refine key u27 hu27 ?_
  show Rn G shX 0 yX5_howMany cX5_howMany 4 (some .int) 31 [(2, .int u27)] [] S post
  refine r_iload_n 0 dX5_howMany_31 rfl rfl ?_
  obtain rfl := Option.some.inj h
  exact r_ireturn rfl dX5_howMany_32 (hp)
theorem mX5_howMany {G : Gx} {S : St} {v1 : Int32} {o : Int32}  (h : fX5_howMany S v1 = some o) : MR_ G shX 0 yX5_howMany cX5_howMany 4 (some .int) [.ref (ad_ G 49), .int v1] S (PI_ o S) := MR_of cb_X5_howMany (Nat.le_of_ble_eq_true rfl) [(0, .ref (ad_ G 49)), (1, .int v1)] rfl (tX5_howMany  h ⟨rfl, rfl⟩)
set_option maxRecDepth 100000 in
set_option maxHeartbeats 4000000 in
theorem tX5_sumIn {G : Gx} {post : Option Value → St → Prop} {k1 : Nat} {S : St} {v2 : Int32} {o : Int32} (hk1 : shX[k1]? = some (.inr (0, 12, fun _ => 0))) (h : fX5_sumIn k1 S v2 = some o) (hp : post (some (.int o)) S) : Rn G shX 0 yX5_sumIn cX5_sumIn 5 (some .int) 0 [(0, .ref (ad_ G 49)), (1, .ref (ad_ G k1)), (2, .int v2)] [] S post := by
  unfold fX5_sumIn at h
  refine r_iconst (v := 0) dX5_sumIn_0 rfl ?_
  refine r_istore_n (i := 3) [(0, .ref (ad_ G 49)), (1, .ref (ad_ G k1)), (2, .int v2), (3, .int 0)] [1, 2, 3, 0] dX5_sumIn_1 rfl (by decide) rfl ?_
  refine r_iconst (v := 0) dX5_sumIn_2 rfl ?_
  refine r_istore (i := 4) [(0, .ref (ad_ G 49)), (1, .ref (ad_ G k1)), (2, .int v2), (3, .int 0), (4, .int 0)] [1, 2, 3, 4, 0] dX5_sumIn_3 (by decide) rfl ?_
  have key : ∀ ex, lp (fun w21 : Int32 × Int32 => bX5_sumIn_5 k1 S v2 w21.1 w21.2) 5000 (0, 0) = some ex → (fun u28 : Int32 => Rn G shX 0 yX5_sumIn cX5_sumIn 5 (some .int) 38 [(3, .int u28)] [] S post) ex → Rn G shX 0 yX5_sumIn cX5_sumIn 5 (some .int) 5 [(0, .ref (ad_ G 49)), (1, .ref (ad_ G k1)), (2, .int v2), (3, .int 0), (4, .int 0)] [] S post := by
    intro ex hl hx
    refine lp_rule (body := (fun w21 : Int32 × Int32 => bX5_sumIn_5 k1 S v2 w21.1 w21.2)) (R := (fun w21 : Int32 × Int32 => Rn G shX 0 yX5_sumIn cX5_sumIn 5 (some .int) 5 [(0, .ref (ad_ G 49)), (1, .ref (ad_ G k1)), (2, .int v2), (3, .int w21.1), (4, .int w21.2)] [] S post)) (X := (fun u28 : Int32 => Rn G shX 0 yX5_sumIn cX5_sumIn 5 (some .int) 38 [(3, .int u28)] [] S post)) ?_ 5000 (0, 0) ex hl hx
    intro w21 oo h hB hX
    obtain ⟨v22, v23⟩ := w21
    replace h : bX5_sumIn_5 k1 S v2 v22 v23 = some oo := h
    unfold bX5_sumIn_5 at h
    show Rn G shX 0 yX5_sumIn cX5_sumIn 5 (some .int) 5 [(0, .ref (ad_ G 49)), (1, .ref (ad_ G k1)), (2, .int v2), (3, .int v22), (4, .int v23)] [] S post
    refine r_iload 4 dX5_sumIn_5 rfl ?_
    refine r_aload_n 0 dX5_sumIn_7 rfl rfl ?_
    refine r_getI (k := 49) (j := 6) sX_49 rfl fl_X5_30 dX5_sumIn_8 ?_
    refine r_icmp_ge 38 dX5_sumIn_11 (by decide) (fun c27 => ?_) (fun c27 => ?_)
    · rw [if_pos c27] at h
      refine r_sub [(3, .int v22)] [3] rfl ?_
      obtain rfl := Option.some.inj h
      exact hX v22 rfl
    · rw [if_neg c27] at h
      refine r_aload_n 0 dX5_sumIn_14 rfl rfl ?_
      refine r_getC (k := 49) (j := 0) (r := 50) sX_49 rfl fl_X5_9 dX5_sumIn_15 ?_
      refine r_iload 4 dX5_sumIn_18 rfl ?_
      obtain ⟨x24, hx24, h⟩ := b1_some h
      refine r_iaload sX_50 hx24 dX5_sumIn_20 ?_
      refine r_iload_n 2 dX5_sumIn_21 rfl rfl ?_
      refine r_icmp_ne 32 dX5_sumIn_22 (by decide) (fun c26 => ?_) (fun c26 => ?_)
      · rw [if_neg c26] at h
        refine r_iinc (v := v23 + 1) [(0, .ref (ad_ G 49)), (1, .ref (ad_ G k1)), (2, .int v2), (3, .int v22), (4, .int (v23 + 1))] 4 [1, 2, 3, 4, 0] dX5_sumIn_32 rfl rfl (by decide) rfl ?_
        refine r_goto 5 dX5_sumIn_35 (by decide) ?_
        obtain rfl := Option.some.inj h
        exact hB (v22, v23 + 1) rfl
      · rw [if_pos c26] at h
        refine r_iload_n 3 dX5_sumIn_25 rfl rfl ?_
        refine r_aload_n 1 dX5_sumIn_26 rfl rfl ?_
        refine r_iload 4 dX5_sumIn_27 rfl ?_
        obtain ⟨x25, hx25, h⟩ := b1_some h
        refine r_iaload hk1 hx25 dX5_sumIn_29 ?_
        refine r_iadd dX5_sumIn_30 ?_
        refine r_istore_n (i := 3) [(0, .ref (ad_ G 49)), (1, .ref (ad_ G k1)), (2, .int v2), (3, .int (v22 + x25)), (4, .int v23)] [1, 2, 3, 0, 4] dX5_sumIn_31 rfl (by decide) rfl ?_
        refine r_iinc (v := v23 + 1) [(0, .ref (ad_ G 49)), (1, .ref (ad_ G k1)), (2, .int v2), (3, .int (v22 + x25)), (4, .int (v23 + 1))] 4 [1, 2, 3, 4, 0] dX5_sumIn_32 rfl rfl (by decide) rfl ?_
        refine r_goto 5 dX5_sumIn_35 (by decide) ?_
        obtain rfl := Option.some.inj h
        exact hB (v22 + x25, v23 + 1) rfl
  obtain ⟨u28, hu28, h⟩ := b1_some h
  refine key u28 hu28 ?_
  show Rn G shX 0 yX5_sumIn cX5_sumIn 5 (some .int) 38 [(3, .int u28)] [] S post
  refine r_iload_n 0 dX5_sumIn_38 rfl rfl ?_
  obtain rfl := Option.some.inj h
  exact r_ireturn rfl dX5_sumIn_39 (hp)
theorem mX5_sumIn {G : Gx} {k1 : Nat} {S : St} {v2 : Int32} {o : Int32} (hk1 : shX[k1]? = some (.inr (0, 12, fun _ => 0))) (h : fX5_sumIn k1 S v2 = some o) : MR_ G shX 0 yX5_sumIn cX5_sumIn 5 (some .int) [.ref (ad_ G 49), .ref (ad_ G k1), .int v2] S (PI_ o S) := MR_of cb_X5_sumIn (Nat.le_of_ble_eq_true rfl) [(0, .ref (ad_ G 49)), (1, .ref (ad_ G k1)), (2, .int v2)] rfl (tX5_sumIn hk1 h ⟨rfl, rfl⟩)
set_option maxRecDepth 100000 in
set_option maxHeartbeats 4000000 in
theorem tX5_distanceOff {G : Gx} {post : Option Value → St → Prop} {S : St} {v1 : Int32} {o : Int32}  (h : fX5_distanceOff S v1 = some o) (hp : post (some (.int o)) S) : Rn G shX 1 yX5_distanceOff cX5_distanceOff 2 (some .int) 0 [(0, .ref (ad_ G 49)), (1, .int v1)] [] S post := by
  unfold fX5_distanceOff at h
  refine r_aload_n 0 dX5_distanceOff_0 rfl rfl ?_
  refine r_aload_n 0 dX5_distanceOff_1 rfl rfl ?_
  refine r_getC (k := 49) (j := 4) (r := 54) sX_49 rfl fl_X5_24 dX5_distanceOff_2 ?_
  refine r_iload_n 1 dX5_distanceOff_5 rfl rfl ?_
  obtain ⟨x21, hx21, h⟩ := b1_some h
  refine r_callVi (k := 49) (rest := []) (by omega) (mX5_sumIn sX_54 hx21) sX_49 rfl rfl cb_X5_sumIn ml_X5_47 im_X5_sumIn se_X5_sumIn rfl rfl (Nat.le_of_ble_eq_true rfl) dX5_distanceOff_6 ?_
  refine r_mabs (rest := []) (by omega) ml_X5_51 (Nat.le_of_ble_eq_true rfl) dX5_distanceOff_9 ?_
  obtain rfl := Option.some.inj h
  exact r_ireturn rfl dX5_distanceOff_12 (hp)
theorem mX5_distanceOff {G : Gx} {S : St} {v1 : Int32} {o : Int32}  (h : fX5_distanceOff S v1 = some o) : MR_ G shX 1 yX5_distanceOff cX5_distanceOff 2 (some .int) [.ref (ad_ G 49), .int v1] S (PI_ o S) := MR_of cb_X5_distanceOff (Nat.le_of_ble_eq_true rfl) [(0, .ref (ad_ G 49)), (1, .int v1)] rfl (tX5_distanceOff  h ⟨rfl, rfl⟩)
set_option maxRecDepth 100000 in
set_option maxHeartbeats 4000000 in
theorem tX5_isOff {G : Gx} {post : Option Value → St → Prop} {S : St} {v1 : Int32} {v2 : Int32} {o : Int32}  (h : fX5_isOff S v1 v2 = some o) (hp : post (some (.int o)) S) : Rn G shX 2 yX5_isOff cX5_isOff 4 (some .boolean) 0 [(0, .ref (ad_ G 49)), (1, .int v1), (2, .int v2)] [] S post := by
  unfold fX5_isOff at h
  refine r_aload_n 0 dX5_isOff_0 rfl rfl ?_
  refine r_iload_n 1 dX5_isOff_1 rfl rfl ?_
  obtain ⟨x21, hx21, h⟩ := b1_some h
  refine r_callVi (k := 49) (rest := []) (by omega) (mX5_howMany hx21) sX_49 rfl rfl cb_X5_howMany ml_X5_55 im_X5_howMany se_X5_howMany rfl rfl (Nat.le_of_ble_eq_true rfl) dX5_isOff_2 ?_
  refine r_istore_n (i := 3) [(0, .ref (ad_ G 49)), (1, .int v1), (2, .int v2), (3, .int x21)] [1, 2, 3, 0] dX5_isOff_5 rfl (by decide) rfl ?_
  refine r_iload_n 3 dX5_isOff_6 rfl rfl ?_
  refine r_iconst (v := 2) dX5_isOff_7 rfl ?_
  refine r_icmp_lt 26 dX5_isOff_8 (by decide) (fun c24 => ?_) (fun c24 => ?_)
  · rw [if_pos c24] at h
    refine r_iconst (v := 0) dX5_isOff_26 rfl ?_
    obtain rfl := Option.some.inj h
    exact r_zreturn rfl (by decide) dX5_isOff_27 (hp)
  · rw [if_neg c24] at h
    refine r_aload_n 0 dX5_isOff_11 rfl rfl ?_
    refine r_iload_n 1 dX5_isOff_12 rfl rfl ?_
    obtain ⟨x22, hx22, h⟩ := b1_some h
    refine r_callVi (k := 49) (rest := []) (by omega) (mX5_distanceOff hx22) sX_49 rfl rfl cb_X5_distanceOff ml_X5_58 im_X5_distanceOff se_X5_distanceOff rfl rfl (Nat.le_of_ble_eq_true rfl) dX5_isOff_13 ?_
    refine r_iload_n 2 dX5_isOff_16 rfl rfl ?_
    refine r_iload_n 3 dX5_isOff_17 rfl rfl ?_
    refine r_imul dX5_isOff_18 ?_
    refine r_icmp_le 26 dX5_isOff_19 (by decide) (fun c23 => ?_) (fun c23 => ?_)
    · rw [if_pos c23] at h
      refine r_iconst (v := 0) dX5_isOff_26 rfl ?_
      obtain rfl := Option.some.inj h
      exact r_zreturn rfl (by decide) dX5_isOff_27 (hp)
    · rw [if_neg c23] at h
      refine r_iconst (v := 1) dX5_isOff_22 rfl ?_
      refine r_goto 27 dX5_isOff_23 (by decide) ?_
      obtain rfl := Option.some.inj h
      exact r_zreturn rfl (by decide) dX5_isOff_27 (hp)
theorem mX5_isOff {G : Gx} {S : St} {v1 : Int32} {v2 : Int32} {o : Int32}  (h : fX5_isOff S v1 v2 = some o) : MR_ G shX 2 yX5_isOff cX5_isOff 4 (some .boolean) [.ref (ad_ G 49), .int v1, .int v2] S (PI_ o S) := MR_of cb_X5_isOff (Nat.le_of_ble_eq_true rfl) [(0, .ref (ad_ G 49)), (1, .int v1), (2, .int v2)] rfl (tX5_isOff  h ⟨rfl, rfl⟩)
set_option maxRecDepth 100000 in
set_option maxHeartbeats 4000000 in
theorem tX5_longestRun {G : Gx} {post : Option Value → St → Prop} {S : St} {v1 : Int32} {o : Int32}  (h : fX5_longestRun S v1 = some o) (hp : post (some (.int o)) S) : Rn G shX 1 yX5_longestRun cX5_longestRun 6 (some .int) 0 [(0, .ref (ad_ G 49)), (1, .int v1)] [] S post := by
  unfold fX5_longestRun at h
  refine r_iconst (v := 0) dX5_longestRun_0 rfl ?_
  refine r_istore_n (i := 2) [(0, .ref (ad_ G 49)), (1, .int v1), (2, .int 0)] [1, 2, 0] dX5_longestRun_1 rfl (by decide) rfl ?_
  refine r_iconst (v := 0) dX5_longestRun_2 rfl ?_
  refine r_istore_n (i := 3) [(0, .ref (ad_ G 49)), (1, .int v1), (2, .int 0), (3, .int 0)] [1, 2, 3, 0] dX5_longestRun_3 rfl (by decide) rfl ?_
  refine r_iconst (v := 0) dX5_longestRun_4 rfl ?_
  refine r_istore (i := 4) [(0, .ref (ad_ G 49)), (1, .int v1), (2, .int 0), (3, .int 0), (4, .int 0)] [1, 2, 3, 4, 0] dX5_longestRun_5 (by decide) rfl ?_
  refine r_iconst (v := 0) dX5_longestRun_7 rfl ?_
  refine r_istore (i := 5) [(0, .ref (ad_ G 49)), (1, .int v1), (2, .int 0), (3, .int 0), (4, .int 0), (5, .int 0)] [1, 2, 3, 4, 5, 0] dX5_longestRun_8 (by decide) rfl ?_
  have key : ∀ ex, lp (fun w21 : Int32 × Int32 × Int32 × Int32 => bX5_longestRun_10 S v1 w21.1 w21.2.1 w21.2.2.1 w21.2.2.2) 5000 (0, 0, 0, 0) = some ex → (fun u35 : Int32 => Rn G shX 1 yX5_longestRun cX5_longestRun 6 (some .int) 85 [(2, .int u35)] [] S post) ex → Rn G shX 1 yX5_longestRun cX5_longestRun 6 (some .int) 10 [(0, .ref (ad_ G 49)), (1, .int v1), (2, .int 0), (3, .int 0), (4, .int 0), (5, .int 0)] [] S post := by
    intro ex hl hx
    refine lp_rule (body := (fun w21 : Int32 × Int32 × Int32 × Int32 => bX5_longestRun_10 S v1 w21.1 w21.2.1 w21.2.2.1 w21.2.2.2)) (R := (fun w21 : Int32 × Int32 × Int32 × Int32 => Rn G shX 1 yX5_longestRun cX5_longestRun 6 (some .int) 10 [(0, .ref (ad_ G 49)), (1, .int v1), (2, .int w21.1), (3, .int w21.2.1), (4, .int w21.2.2.1), (5, .int w21.2.2.2)] [] S post)) (X := (fun u35 : Int32 => Rn G shX 1 yX5_longestRun cX5_longestRun 6 (some .int) 85 [(2, .int u35)] [] S post)) ?_ 5000 (0, 0, 0, 0) ex hl hx
    intro w21 oo h hB hX
    obtain ⟨v22, v23, v24, v25⟩ := w21
    replace h : bX5_longestRun_10 S v1 v22 v23 v24 v25 = some oo := h
    unfold bX5_longestRun_10 at h
    show Rn G shX 1 yX5_longestRun cX5_longestRun 6 (some .int) 10 [(0, .ref (ad_ G 49)), (1, .int v1), (2, .int v22), (3, .int v23), (4, .int v24), (5, .int v25)] [] S post
    refine r_iload 5 dX5_longestRun_10 rfl ?_
    refine r_aload_n 0 dX5_longestRun_12 rfl rfl ?_
    refine r_getI (k := 49) (j := 6) sX_49 rfl fl_X5_30 dX5_longestRun_13 ?_
    refine r_icmp_ge 85 dX5_longestRun_16 (by decide) (fun c34 => ?_) (fun c34 => ?_)
    · rw [if_pos c34] at h
      refine r_sub [(2, .int v22)] [2] rfl ?_
      obtain rfl := Option.some.inj h
      exact hX v22 rfl
    · rw [if_neg c34] at h
      refine r_aload_n 0 dX5_longestRun_19 rfl rfl ?_
      refine r_getC (k := 49) (j := 0) (r := 50) sX_49 rfl fl_X5_9 dX5_longestRun_20 ?_
      refine r_iload 5 dX5_longestRun_23 rfl ?_
      obtain ⟨x26, hx26, h⟩ := b1_some h
      refine r_iaload sX_50 hx26 dX5_longestRun_25 ?_
      refine r_iload_n 1 dX5_longestRun_26 rfl rfl ?_
      refine r_icmp_ne 79 dX5_longestRun_27 (by decide) (fun c33 => ?_) (fun c33 => ?_)
      · rw [if_neg c33] at h
        refine r_iinc (v := v25 + 1) [(0, .ref (ad_ G 49)), (1, .int v1), (2, .int v22), (3, .int v23), (4, .int v24), (5, .int (v25 + 1))] 5 [1, 2, 3, 4, 5, 0] dX5_longestRun_79 rfl rfl (by decide) rfl ?_
        refine r_goto 10 dX5_longestRun_82 (by decide) ?_
        obtain rfl := Option.some.inj h
        exact hB (v22, v23, v24, v25 + 1) rfl
      · rw [if_pos c33] at h
        refine r_aload_n 0 dX5_longestRun_30 rfl rfl ?_
        refine r_getC (k := 49) (j := 4) (r := 54) sX_49 rfl fl_X5_24 dX5_longestRun_31 ?_
        refine r_iload 5 dX5_longestRun_34 rfl ?_
        obtain ⟨x27, hx27, h⟩ := b1_some h
        refine r_iaload sX_54 hx27 dX5_longestRun_36 ?_
        obtain ⟨w28, hw28, h⟩ := b1_some h
        have hJ : Rn G shX 1 yX5_longestRun cX5_longestRun 6 (some .int) 47 [(0, .ref (ad_ G 49)), (1, .int v1), (2, .int v22), (4, .int v24), (5, .int v25)] [.int w28] S post := by
          refine r_istore_n (i := 3) [(0, .ref (ad_ G 49)), (1, .int v1), (2, .int v22), (3, .int w28), (4, .int v24), (5, .int v25)] [1, 2, 3, 0, 4, 5] dX5_longestRun_47 rfl (by decide) rfl ?_
          refine r_aload_n 0 dX5_longestRun_48 rfl rfl ?_
          refine r_getC (k := 49) (j := 4) (r := 54) sX_49 rfl fl_X5_24 dX5_longestRun_49 ?_
          refine r_iload 5 dX5_longestRun_52 rfl ?_
          obtain ⟨x29, hx29, h⟩ := b1_some h
          refine r_iaload sX_54 hx29 dX5_longestRun_54 ?_
          obtain ⟨w30, hw30, h⟩ := b1_some h
          have hJ : Rn G shX 1 yX5_longestRun cX5_longestRun 6 (some .int) 66 [(0, .ref (ad_ G 49)), (1, .int v1), (2, .int v22), (3, .int w28), (5, .int v25)] [.int w30] S post := by
            refine r_istore (i := 4) [(0, .ref (ad_ G 49)), (1, .int v1), (2, .int v22), (3, .int w28), (4, .int w30), (5, .int v25)] [1, 2, 3, 4, 0, 5] dX5_longestRun_66 (by decide) rfl ?_
            refine r_iload_n 2 dX5_longestRun_68 rfl rfl ?_
            refine r_iload_n 3 dX5_longestRun_69 rfl rfl ?_
            refine r_iload 4 dX5_longestRun_70 rfl ?_
            refine r_mmax (rest := [.int v22]) (by omega) ml_X5_34 (Nat.le_of_ble_eq_true rfl) dX5_longestRun_72 ?_
            refine r_mmax (rest := []) (by omega) ml_X5_34 (Nat.le_of_ble_eq_true rfl) dX5_longestRun_75 ?_
            refine r_istore_n (i := 2) [(0, .ref (ad_ G 49)), (1, .int v1), (2, .int (mmax_ v22 (mmax_ w28 w30))), (3, .int w28), (4, .int w30), (5, .int v25)] [1, 2, 0, 3, 4, 5] dX5_longestRun_78 rfl (by decide) rfl ?_
            refine r_iinc (v := v25 + 1) [(0, .ref (ad_ G 49)), (1, .int v1), (2, .int (mmax_ v22 (mmax_ w28 w30))), (3, .int w28), (4, .int w30), (5, .int (v25 + 1))] 5 [1, 2, 3, 4, 5, 0] dX5_longestRun_79 rfl rfl (by decide) rfl ?_
            refine r_goto 10 dX5_longestRun_82 (by decide) ?_
            obtain rfl := Option.some.inj h
            exact hB (mmax_ v22 (mmax_ w28 w30), w28, w30, v25 + 1) rfl
          clear h
          replace h := hw30
          refine r_if_ge 65 dX5_longestRun_55 (by decide) (fun c31 => ?_) (fun c31 => ?_)
          · rw [if_pos c31] at h
            refine r_iconst (v := 0) dX5_longestRun_65 rfl ?_
            refine r_sub [(0, .ref (ad_ G 49)), (1, .int v1), (2, .int v22), (3, .int w28), (5, .int v25)] [0, 1, 2, 3, 5] rfl ?_
            obtain rfl := Option.some.inj h
            exact hJ
          · rw [if_neg c31] at h
            refine r_iload 4 dX5_longestRun_58 rfl ?_
            refine r_iconst (v := 1) dX5_longestRun_60 rfl ?_
            refine r_iadd dX5_longestRun_61 ?_
            refine r_goto 66 dX5_longestRun_62 (by decide) ?_
            refine r_sub [(0, .ref (ad_ G 49)), (1, .int v1), (2, .int v22), (3, .int w28), (5, .int v25)] [0, 1, 2, 3, 5] rfl ?_
            obtain rfl := Option.some.inj h
            exact hJ
        clear h
        replace h := hw28
        refine r_if_le 46 dX5_longestRun_37 (by decide) (fun c32 => ?_) (fun c32 => ?_)
        · rw [if_pos c32] at h
          refine r_iconst (v := 0) dX5_longestRun_46 rfl ?_
          refine r_sub [(0, .ref (ad_ G 49)), (1, .int v1), (2, .int v22), (4, .int v24), (5, .int v25)] [0, 1, 2, 4, 5] rfl ?_
          obtain rfl := Option.some.inj h
          exact hJ
        · rw [if_neg c32] at h
          refine r_iload_n 3 dX5_longestRun_40 rfl rfl ?_
          refine r_iconst (v := 1) dX5_longestRun_41 rfl ?_
          refine r_iadd dX5_longestRun_42 ?_
          refine r_goto 47 dX5_longestRun_43 (by decide) ?_
          refine r_sub [(0, .ref (ad_ G 49)), (1, .int v1), (2, .int v22), (4, .int v24), (5, .int v25)] [0, 1, 2, 4, 5] rfl ?_
          obtain rfl := Option.some.inj h
          exact hJ
  obtain ⟨u35, hu35, h⟩ := b1_some h
  refine key u35 hu35 ?_
  show Rn G shX 1 yX5_longestRun cX5_longestRun 6 (some .int) 85 [(2, .int u35)] [] S post
  refine r_iload_n 0 dX5_longestRun_85 rfl rfl ?_
  obtain rfl := Option.some.inj h
  exact r_ireturn rfl dX5_longestRun_86 (hp)
theorem mX5_longestRun {G : Gx} {S : St} {v1 : Int32} {o : Int32}  (h : fX5_longestRun S v1 = some o) : MR_ G shX 1 yX5_longestRun cX5_longestRun 6 (some .int) [.ref (ad_ G 49), .int v1] S (PI_ o S) := MR_of cb_X5_longestRun (Nat.le_of_ble_eq_true rfl) [(0, .ref (ad_ G 49)), (1, .int v1)] rfl (tX5_longestRun  h ⟨rfl, rfl⟩)
