set_option maxRecDepth 100000 in
set_option maxHeartbeats 4000000 in
theorem tX12_takes {G : Gx} {post : Option Value → St → Prop} {S : St} {o : St}  (h : fX12_takes S = some o) (hp : post none o) : Rn G shM 0 yX12_takes cX12_takes 2 none 0 [(0, .ref (ad_ G 0))] [] S post := by
  unfold fX12_takes at h
  refine r_aload_n 0 dX12_takes_0 rfl rfl ?_
  refine r_aload_n 0 dX12_takes_1 rfl rfl ?_
  refine r_getI (k := 0) (j := 53) sM_0 rfl fl_X12_316 dX12_takes_2 ?_
  refine r_bipush (v := (-4)) dX12_takes_5 rfl ?_
  refine r_icmp_ne 14 dX12_takes_7 (by decide) (fun c73 => ?_) (fun c73 => ?_)
  · rw [if_neg c73] at h
    refine r_aload_n 0 dX12_takes_14 rfl rfl ?_
    refine r_getI (k := 0) (j := 53) sM_0 rfl fl_X12_316 dX12_takes_15 ?_
    obtain ⟨S21, hS21, h⟩ := b1_some h
    refine r_setI (k := 0) (j := 46) sM_0 rfl pf_X12_325 hS21 dX12_takes_18 ?_
    refine r_aload_n 0 dX12_takes_21 rfl rfl ?_
    refine r_aload_n 0 dX12_takes_22 rfl rfl ?_
    refine r_getI (k := 0) (j := 56) sM_0 rfl fl_X12_319 dX12_takes_23 ?_
    obtain ⟨S22, hS22, h⟩ := b1_some h
    refine r_setI (k := 0) (j := 49) sM_0 rfl pf_X12_328 hS22 dX12_takes_26 ?_
    refine r_iconst (v := 0) dX12_takes_29 rfl ?_
    refine r_istore_n (i := 1) [(0, .ref (ad_ G 0)), (1, .int 0)] [1, 0] dX12_takes_30 rfl (by decide) rfl ?_
    have key : ∀ ex, lp (fun w23 : Int32 × St => bX12_takes_31  w23.1 w23.2) 5000 (0, S22) = some ex → (fun u46 : St => Rn G shM 0 yX12_takes cX12_takes 2 none 152 [] [] u46 post) ex → Rn G shM 0 yX12_takes cX12_takes 2 none 31 [(0, .ref (ad_ G 0)), (1, .int 0)] [] S22 post := by
      intro ex hl hx
      refine lp_rule (body := (fun w23 : Int32 × St => bX12_takes_31  w23.1 w23.2)) (R := (fun w23 : Int32 × St => Rn G shM 0 yX12_takes cX12_takes 2 none 31 [(0, .ref (ad_ G 0)), (1, .int w23.1)] [] w23.2 post)) (X := (fun u46 : St => Rn G shM 0 yX12_takes cX12_takes 2 none 152 [] [] u46 post)) ?_ 5000 (0, S22) ex hl hx
      intro w23 oo h hB hX
      obtain ⟨v24, S25⟩ := w23
      replace h : bX12_takes_31  v24 S25 = some oo := h
      unfold bX12_takes_31 at h
      show Rn G shM 0 yX12_takes cX12_takes 2 none 31 [(0, .ref (ad_ G 0)), (1, .int v24)] [] S25 post
      refine r_iload_n 1 dX12_takes_31 rfl rfl ?_
      refine r_bipush (v := 8) dX12_takes_32 rfl ?_
      refine r_icmp_ge 152 dX12_takes_34 (by decide) (fun c45 => ?_) (fun c45 => ?_)
      · rw [if_pos c45] at h
        refine r_sub [] [] rfl ?_
        obtain rfl := Option.some.inj h
        exact hX S25 rfl
      · rw [if_neg c45] at h
        refine r_aload_n 0 dX12_takes_37 rfl rfl ?_
        refine r_getC (k := 0) (j := 43) (r := 29) sM_0 rfl fl_X12_103 dX12_takes_38 ?_
        refine r_iload_n 1 dX12_takes_41 rfl rfl ?_
        refine r_aload_n 0 dX12_takes_42 rfl rfl ?_
        refine r_getC (k := 0) (j := 50) (r := 34) sM_0 rfl fl_X12_118 dX12_takes_43 ?_
        refine r_iload_n 1 dX12_takes_46 rfl rfl ?_
        obtain ⟨x26, hx26, h⟩ := b1_some h
        refine r_iaload sM_34 hx26 dX12_takes_47 ?_
        refine r_bipush (v := (-4)) dX12_takes_48 rfl ?_
        obtain ⟨w27, hw27, h⟩ := b1_some h
        have hJ : Rn G shM 0 yX12_takes cX12_takes 2 none 65 [(0, .ref (ad_ G 0)), (1, .int v24)] [.int w27, .int v24, .ref (ad_ G 29)] S25 post := by
          obtain ⟨S28, hS28, h⟩ := b1_some h
          refine r_iastore sM_29 hS28 dX12_takes_65 ?_
          refine r_aload_n 0 dX12_takes_66 rfl rfl ?_
          refine r_getC (k := 0) (j := 44) (r := 30) sM_0 rfl fl_X12_106 dX12_takes_67 ?_
          refine r_iload_n 1 dX12_takes_70 rfl rfl ?_
          refine r_aload_n 0 dX12_takes_71 rfl rfl ?_
          refine r_getC (k := 0) (j := 51) (r := 35) sM_0 rfl fl_X12_121 dX12_takes_72 ?_
          refine r_iload_n 1 dX12_takes_75 rfl rfl ?_
          obtain ⟨x29, hx29, h⟩ := b1_some h
          refine r_iaload sM_35 hx29 dX12_takes_76 ?_
          refine r_bipush (v := (-4)) dX12_takes_77 rfl ?_
          obtain ⟨w30, hw30, h⟩ := b1_some h
          have hJ : Rn G shM 0 yX12_takes cX12_takes 2 none 94 [(0, .ref (ad_ G 0)), (1, .int v24)] [.int w30, .int v24, .ref (ad_ G 30)] S28 post := by
            obtain ⟨S31, hS31, h⟩ := b1_some h
            refine r_iastore sM_30 hS31 dX12_takes_94 ?_
            refine r_aload_n 0 dX12_takes_95 rfl rfl ?_
            refine r_getC (k := 0) (j := 45) (r := 31) sM_0 rfl fl_X12_109 dX12_takes_96 ?_
            refine r_iload_n 1 dX12_takes_99 rfl rfl ?_
            refine r_aload_n 0 dX12_takes_100 rfl rfl ?_
            refine r_getC (k := 0) (j := 52) (r := 36) sM_0 rfl fl_X12_124 dX12_takes_101 ?_
            refine r_iload_n 1 dX12_takes_104 rfl rfl ?_
            obtain ⟨x32, hx32, h⟩ := b1_some h
            refine r_iaload sM_36 hx32 dX12_takes_105 ?_
            obtain ⟨S33, hS33, h⟩ := b1_some h
            refine r_iastore sM_31 hS33 dX12_takes_106 ?_
            refine r_aload_n 0 dX12_takes_107 rfl rfl ?_
            refine r_getC (k := 0) (j := 47) (r := 32) sM_0 rfl fl_X12_112 dX12_takes_108 ?_
            refine r_iload_n 1 dX12_takes_111 rfl rfl ?_
            refine r_aload_n 0 dX12_takes_112 rfl rfl ?_
            refine r_getC (k := 0) (j := 54) (r := 37) sM_0 rfl fl_X12_127 dX12_takes_113 ?_
            refine r_iload_n 1 dX12_takes_116 rfl rfl ?_
            obtain ⟨x34, hx34, h⟩ := b1_some h
            refine r_iaload sM_37 hx34 dX12_takes_117 ?_
            refine r_bipush (v := (-4)) dX12_takes_118 rfl ?_
            obtain ⟨w35, hw35, h⟩ := b1_some h
            have hJ : Rn G shM 0 yX12_takes cX12_takes 2 none 133 [(0, .ref (ad_ G 0)), (1, .int v24)] [.int w35, .int v24, .ref (ad_ G 32)] S33 post := by
              obtain ⟨S36, hS36, h⟩ := b1_some h
              refine r_iastore sM_32 hS36 dX12_takes_133 ?_
              refine r_aload_n 0 dX12_takes_134 rfl rfl ?_
              refine r_getC (k := 0) (j := 48) (r := 33) sM_0 rfl fl_X12_115 dX12_takes_135 ?_
              refine r_iload_n 1 dX12_takes_138 rfl rfl ?_
              refine r_aload_n 0 dX12_takes_139 rfl rfl ?_
              refine r_getC (k := 0) (j := 55) (r := 38) sM_0 rfl fl_X12_130 dX12_takes_140 ?_
              refine r_iload_n 1 dX12_takes_143 rfl rfl ?_
              obtain ⟨x37, hx37, h⟩ := b1_some h
              refine r_iaload sM_38 hx37 dX12_takes_144 ?_
              obtain ⟨S38, hS38, h⟩ := b1_some h
              refine r_iastore sM_33 hS38 dX12_takes_145 ?_
              refine r_iinc (v := v24 + 1) [(0, .ref (ad_ G 0)), (1, .int (v24 + 1))] 1 [1, 0] dX12_takes_146 rfl rfl (by decide) rfl ?_
              refine r_goto 31 dX12_takes_149 (by decide) ?_
              obtain rfl := Option.some.inj h
              exact hB (v24 + 1, S38) rfl
            clear h
            replace h := hw35
            refine r_icmp_ne 127 dX12_takes_120 (by decide) (fun c40 => ?_) (fun c40 => ?_)
            · rw [if_neg c40] at h
              refine r_aload_n 0 dX12_takes_127 rfl rfl ?_
              refine r_getC (k := 0) (j := 54) (r := 37) sM_0 rfl fl_X12_127 dX12_takes_128 ?_
              refine r_iload_n 1 dX12_takes_131 rfl rfl ?_
              obtain ⟨x39, hx39, h⟩ := b1_some h
              refine r_iaload sM_37 hx39 dX12_takes_132 ?_
              obtain rfl := Option.some.inj h
              exact hJ
            · rw [if_pos c40] at h
              refine r_iconst (v := 0) dX12_takes_123 rfl ?_
              refine r_goto 133 dX12_takes_124 (by decide) ?_
              obtain rfl := Option.some.inj h
              exact hJ
          clear h
          replace h := hw30
          refine r_icmp_ne 88 dX12_takes_79 (by decide) (fun c42 => ?_) (fun c42 => ?_)
          · rw [if_neg c42] at h
            refine r_aload_n 0 dX12_takes_88 rfl rfl ?_
            refine r_getC (k := 0) (j := 51) (r := 35) sM_0 rfl fl_X12_121 dX12_takes_89 ?_
            refine r_iload_n 1 dX12_takes_92 rfl rfl ?_
            obtain ⟨x41, hx41, h⟩ := b1_some h
            refine r_iaload sM_35 hx41 dX12_takes_93 ?_
            obtain rfl := Option.some.inj h
            exact hJ
          · rw [if_pos c42] at h
            refine r_sipush (v := 2000) dX12_takes_82 rfl ?_
            refine r_goto 94 dX12_takes_85 (by decide) ?_
            obtain rfl := Option.some.inj h
            exact hJ
        clear h
        replace h := hw27
        refine r_icmp_ne 59 dX12_takes_50 (by decide) (fun c44 => ?_) (fun c44 => ?_)
        · rw [if_neg c44] at h
          refine r_aload_n 0 dX12_takes_59 rfl rfl ?_
          refine r_getC (k := 0) (j := 50) (r := 34) sM_0 rfl fl_X12_118 dX12_takes_60 ?_
          refine r_iload_n 1 dX12_takes_63 rfl rfl ?_
          obtain ⟨x43, hx43, h⟩ := b1_some h
          refine r_iaload sM_34 hx43 dX12_takes_64 ?_
          obtain rfl := Option.some.inj h
          exact hJ
        · rw [if_pos c44] at h
          refine r_sipush (v := 1800) dX12_takes_53 rfl ?_
          refine r_goto 65 dX12_takes_56 (by decide) ?_
          obtain rfl := Option.some.inj h
          exact hJ
    obtain ⟨u46, hu46, h⟩ := b1_some h
    refine key u46 hu46 ?_
    show Rn G shM 0 yX12_takes cX12_takes 2 none 152 [] [] u46 post
    obtain rfl := Option.some.inj h
    exact r_return rfl dX12_takes_152 (hp)
  · rw [if_pos c73] at h
    refine r_iconst (v := 5) dX12_takes_10 rfl ?_
    refine r_goto 18 dX12_takes_11 (by decide) ?_
    obtain ⟨S47, hS47, h⟩ := b1_some h
    refine r_setI (k := 0) (j := 46) sM_0 rfl pf_X12_325 hS47 dX12_takes_18 ?_
    refine r_aload_n 0 dX12_takes_21 rfl rfl ?_
    refine r_aload_n 0 dX12_takes_22 rfl rfl ?_
    refine r_getI (k := 0) (j := 56) sM_0 rfl fl_X12_319 dX12_takes_23 ?_
    obtain ⟨S48, hS48, h⟩ := b1_some h
    refine r_setI (k := 0) (j := 49) sM_0 rfl pf_X12_328 hS48 dX12_takes_26 ?_
    refine r_iconst (v := 0) dX12_takes_29 rfl ?_
    refine r_istore_n (i := 1) [(0, .ref (ad_ G 0)), (1, .int 0)] [1, 0] dX12_takes_30 rfl (by decide) rfl ?_
    have key : ∀ ex, lp (fun w49 : Int32 × St => bX12_takes_31b  w49.1 w49.2) 5000 (0, S48) = some ex → (fun u72 : St => Rn G shM 0 yX12_takes cX12_takes 2 none 152 [] [] u72 post) ex → Rn G shM 0 yX12_takes cX12_takes 2 none 31 [(0, .ref (ad_ G 0)), (1, .int 0)] [] S48 post := by
      intro ex hl hx
      refine lp_rule (body := (fun w49 : Int32 × St => bX12_takes_31b  w49.1 w49.2)) (R := (fun w49 : Int32 × St => Rn G shM 0 yX12_takes cX12_takes 2 none 31 [(0, .ref (ad_ G 0)), (1, .int w49.1)] [] w49.2 post)) (X := (fun u72 : St => Rn G shM 0 yX12_takes cX12_takes 2 none 152 [] [] u72 post)) ?_ 5000 (0, S48) ex hl hx
      intro w49 oo h hB hX
      obtain ⟨v50, S51⟩ := w49
      replace h : bX12_takes_31b  v50 S51 = some oo := h
      unfold bX12_takes_31b at h
      show Rn G shM 0 yX12_takes cX12_takes 2 none 31 [(0, .ref (ad_ G 0)), (1, .int v50)] [] S51 post
      refine r_iload_n 1 dX12_takes_31 rfl rfl ?_
      refine r_bipush (v := 8) dX12_takes_32 rfl ?_
      refine r_icmp_ge 152 dX12_takes_34 (by decide) (fun c71 => ?_) (fun c71 => ?_)
      · rw [if_pos c71] at h
        refine r_sub [] [] rfl ?_
        obtain rfl := Option.some.inj h
        exact hX S51 rfl
      · rw [if_neg c71] at h
        refine r_aload_n 0 dX12_takes_37 rfl rfl ?_
        refine r_getC (k := 0) (j := 43) (r := 29) sM_0 rfl fl_X12_103 dX12_takes_38 ?_
        refine r_iload_n 1 dX12_takes_41 rfl rfl ?_
        refine r_aload_n 0 dX12_takes_42 rfl rfl ?_
        refine r_getC (k := 0) (j := 50) (r := 34) sM_0 rfl fl_X12_118 dX12_takes_43 ?_
        refine r_iload_n 1 dX12_takes_46 rfl rfl ?_
        obtain ⟨x52, hx52, h⟩ := b1_some h
        refine r_iaload sM_34 hx52 dX12_takes_47 ?_
        refine r_bipush (v := (-4)) dX12_takes_48 rfl ?_
        obtain ⟨w53, hw53, h⟩ := b1_some h
        have hJ : Rn G shM 0 yX12_takes cX12_takes 2 none 65 [(0, .ref (ad_ G 0)), (1, .int v50)] [.int w53, .int v50, .ref (ad_ G 29)] S51 post := by
          obtain ⟨S54, hS54, h⟩ := b1_some h
          refine r_iastore sM_29 hS54 dX12_takes_65 ?_
          refine r_aload_n 0 dX12_takes_66 rfl rfl ?_
          refine r_getC (k := 0) (j := 44) (r := 30) sM_0 rfl fl_X12_106 dX12_takes_67 ?_
          refine r_iload_n 1 dX12_takes_70 rfl rfl ?_
          refine r_aload_n 0 dX12_takes_71 rfl rfl ?_
          refine r_getC (k := 0) (j := 51) (r := 35) sM_0 rfl fl_X12_121 dX12_takes_72 ?_
          refine r_iload_n 1 dX12_takes_75 rfl rfl ?_
          obtain ⟨x55, hx55, h⟩ := b1_some h
          refine r_iaload sM_35 hx55 dX12_takes_76 ?_
          refine r_bipush (v := (-4)) dX12_takes_77 rfl ?_
          obtain ⟨w56, hw56, h⟩ := b1_some h
          have hJ : Rn G shM 0 yX12_takes cX12_takes 2 none 94 [(0, .ref (ad_ G 0)), (1, .int v50)] [.int w56, .int v50, .ref (ad_ G 30)] S54 post := by
            obtain ⟨S57, hS57, h⟩ := b1_some h
            refine r_iastore sM_30 hS57 dX12_takes_94 ?_
            refine r_aload_n 0 dX12_takes_95 rfl rfl ?_
            refine r_getC (k := 0) (j := 45) (r := 31) sM_0 rfl fl_X12_109 dX12_takes_96 ?_
            refine r_iload_n 1 dX12_takes_99 rfl rfl ?_
            refine r_aload_n 0 dX12_takes_100 rfl rfl ?_
            refine r_getC (k := 0) (j := 52) (r := 36) sM_0 rfl fl_X12_124 dX12_takes_101 ?_
            refine r_iload_n 1 dX12_takes_104 rfl rfl ?_
            obtain ⟨x58, hx58, h⟩ := b1_some h
            refine r_iaload sM_36 hx58 dX12_takes_105 ?_
            obtain ⟨S59, hS59, h⟩ := b1_some h
            refine r_iastore sM_31 hS59 dX12_takes_106 ?_
            refine r_aload_n 0 dX12_takes_107 rfl rfl ?_
            refine r_getC (k := 0) (j := 47) (r := 32) sM_0 rfl fl_X12_112 dX12_takes_108 ?_
            refine r_iload_n 1 dX12_takes_111 rfl rfl ?_
            refine r_aload_n 0 dX12_takes_112 rfl rfl ?_
            refine r_getC (k := 0) (j := 54) (r := 37) sM_0 rfl fl_X12_127 dX12_takes_113 ?_
            refine r_iload_n 1 dX12_takes_116 rfl rfl ?_
            obtain ⟨x60, hx60, h⟩ := b1_some h
            refine r_iaload sM_37 hx60 dX12_takes_117 ?_
            refine r_bipush (v := (-4)) dX12_takes_118 rfl ?_
            obtain ⟨w61, hw61, h⟩ := b1_some h
            have hJ : Rn G shM 0 yX12_takes cX12_takes 2 none 133 [(0, .ref (ad_ G 0)), (1, .int v50)] [.int w61, .int v50, .ref (ad_ G 32)] S59 post := by
              obtain ⟨S62, hS62, h⟩ := b1_some h
              refine r_iastore sM_32 hS62 dX12_takes_133 ?_
              refine r_aload_n 0 dX12_takes_134 rfl rfl ?_
              refine r_getC (k := 0) (j := 48) (r := 33) sM_0 rfl fl_X12_115 dX12_takes_135 ?_
              refine r_iload_n 1 dX12_takes_138 rfl rfl ?_
              refine r_aload_n 0 dX12_takes_139 rfl rfl ?_
              refine r_getC (k := 0) (j := 55) (r := 38) sM_0 rfl fl_X12_130 dX12_takes_140 ?_
              refine r_iload_n 1 dX12_takes_143 rfl rfl ?_
              obtain ⟨x63, hx63, h⟩ := b1_some h
              refine r_iaload sM_38 hx63 dX12_takes_144 ?_
              obtain ⟨S64, hS64, h⟩ := b1_some h
              refine r_iastore sM_33 hS64 dX12_takes_145 ?_
              refine r_iinc (v := v50 + 1) [(0, .ref (ad_ G 0)), (1, .int (v50 + 1))] 1 [1, 0] dX12_takes_146 rfl rfl (by decide) rfl ?_
              refine r_goto 31 dX12_takes_149 (by decide) ?_
              obtain rfl := Option.some.inj h
              exact hB (v50 + 1, S64) rfl
            clear h
            replace h := hw61
            refine r_icmp_ne 127 dX12_takes_120 (by decide) (fun c66 => ?_) (fun c66 => ?_)
            · rw [if_neg c66] at h
              refine r_aload_n 0 dX12_takes_127 rfl rfl ?_
              refine r_getC (k := 0) (j := 54) (r := 37) sM_0 rfl fl_X12_127 dX12_takes_128 ?_
              refine r_iload_n 1 dX12_takes_131 rfl rfl ?_
              obtain ⟨x65, hx65, h⟩ := b1_some h
              refine r_iaload sM_37 hx65 dX12_takes_132 ?_
              obtain rfl := Option.some.inj h
              exact hJ
            · rw [if_pos c66] at h
              refine r_iconst (v := 0) dX12_takes_123 rfl ?_
              refine r_goto 133 dX12_takes_124 (by decide) ?_
              obtain rfl := Option.some.inj h
              exact hJ
          clear h
          replace h := hw56
          refine r_icmp_ne 88 dX12_takes_79 (by decide) (fun c68 => ?_) (fun c68 => ?_)
          · rw [if_neg c68] at h
            refine r_aload_n 0 dX12_takes_88 rfl rfl ?_
            refine r_getC (k := 0) (j := 51) (r := 35) sM_0 rfl fl_X12_121 dX12_takes_89 ?_
            refine r_iload_n 1 dX12_takes_92 rfl rfl ?_
            obtain ⟨x67, hx67, h⟩ := b1_some h
            refine r_iaload sM_35 hx67 dX12_takes_93 ?_
            obtain rfl := Option.some.inj h
            exact hJ
          · rw [if_pos c68] at h
            refine r_sipush (v := 2000) dX12_takes_82 rfl ?_
            refine r_goto 94 dX12_takes_85 (by decide) ?_
            obtain rfl := Option.some.inj h
            exact hJ
        clear h
        replace h := hw53
        refine r_icmp_ne 59 dX12_takes_50 (by decide) (fun c70 => ?_) (fun c70 => ?_)
        · rw [if_neg c70] at h
          refine r_aload_n 0 dX12_takes_59 rfl rfl ?_
          refine r_getC (k := 0) (j := 50) (r := 34) sM_0 rfl fl_X12_118 dX12_takes_60 ?_
          refine r_iload_n 1 dX12_takes_63 rfl rfl ?_
          obtain ⟨x69, hx69, h⟩ := b1_some h
          refine r_iaload sM_34 hx69 dX12_takes_64 ?_
          obtain rfl := Option.some.inj h
          exact hJ
        · rw [if_pos c70] at h
          refine r_sipush (v := 1800) dX12_takes_53 rfl ?_
          refine r_goto 65 dX12_takes_56 (by decide) ?_
          obtain rfl := Option.some.inj h
          exact hJ
    obtain ⟨u72, hu72, h⟩ := b1_some h
    refine key u72 hu72 ?_
    show Rn G shM 0 yX12_takes cX12_takes 2 none 152 [] [] u72 post
    obtain rfl := Option.some.inj h
    exact r_return rfl dX12_takes_152 (hp)
theorem mX12_takes {G : Gx} {S : St} {o : St}  (h : fX12_takes S = some o) : MR_ G shM 0 yX12_takes cX12_takes 2 none [.ref (ad_ G 0)] S (PV_ o) := MR_of cb_X12_takes (Nat.le_of_ble_eq_true rfl) [(0, .ref (ad_ G 0))] rfl (tX12_takes  h ⟨rfl, rfl⟩)
set_option maxRecDepth 100000 in
set_option maxHeartbeats 4000000 in
theorem tX12_forgets {G : Gx} {post : Option Value → St → Prop} {S : St} {o : St}  (h : fX12_forgets S = some o) (hp : post none o) : Rn G shM 1 yX12_forgets cX12_forgets 2 none 0 [(0, .ref (ad_ G 0))] [] S post := by
  unfold fX12_forgets at h
  refine r_aload_n 0 dX12_forgets_0 rfl rfl ?_
  refine r_bipush (v := (-4)) dX12_forgets_1 rfl ?_
  obtain ⟨S21, hS21, h⟩ := b1_some h
  refine r_setI (k := 0) (j := 53) sM_0 rfl pf_X12_316 hS21 dX12_forgets_3 ?_
  refine r_aload_n 0 dX12_forgets_6 rfl rfl ?_
  refine r_iconst (v := 0) dX12_forgets_7 rfl ?_
  obtain ⟨S22, hS22, h⟩ := b1_some h
  refine r_setI (k := 0) (j := 56) sM_0 rfl pf_X12_319 hS22 dX12_forgets_8 ?_
  refine r_iconst (v := 0) dX12_forgets_11 rfl ?_
  refine r_istore_n (i := 1) [(0, .ref (ad_ G 0)), (1, .int 0)] [1, 0] dX12_forgets_12 rfl (by decide) rfl ?_
  have key : ∀ ex, lp (fun w23 : Int32 × St => bX12_forgets_13  w23.1 w23.2) 5000 (0, S22) = some ex → (fun u32 : St => Rn G shM 1 yX12_forgets cX12_forgets 2 none 64 [(0, .ref (ad_ G 0))] [] u32 post) ex → Rn G shM 1 yX12_forgets cX12_forgets 2 none 13 [(0, .ref (ad_ G 0)), (1, .int 0)] [] S22 post := by
    intro ex hl hx
    refine lp_rule (body := (fun w23 : Int32 × St => bX12_forgets_13  w23.1 w23.2)) (R := (fun w23 : Int32 × St => Rn G shM 1 yX12_forgets cX12_forgets 2 none 13 [(0, .ref (ad_ G 0)), (1, .int w23.1)] [] w23.2 post)) (X := (fun u32 : St => Rn G shM 1 yX12_forgets cX12_forgets 2 none 64 [(0, .ref (ad_ G 0))] [] u32 post)) ?_ 5000 (0, S22) ex hl hx
    intro w23 oo h hB hX
    obtain ⟨v24, S25⟩ := w23
    replace h : bX12_forgets_13  v24 S25 = some oo := h
    unfold bX12_forgets_13 at h
    show Rn G shM 1 yX12_forgets cX12_forgets 2 none 13 [(0, .ref (ad_ G 0)), (1, .int v24)] [] S25 post
    refine r_iload_n 1 dX12_forgets_13 rfl rfl ?_
    refine r_bipush (v := 8) dX12_forgets_14 rfl ?_
    refine r_icmp_ge 64 dX12_forgets_16 (by decide) (fun c31 => ?_) (fun c31 => ?_)
    · rw [if_pos c31] at h
      refine r_sub [(0, .ref (ad_ G 0))] [0] rfl ?_
      obtain rfl := Option.some.inj h
      exact hX S25 rfl
    · rw [if_neg c31] at h
      refine r_aload_n 0 dX12_forgets_19 rfl rfl ?_
      refine r_getC (k := 0) (j := 50) (r := 34) sM_0 rfl fl_X12_118 dX12_forgets_20 ?_
      refine r_iload_n 1 dX12_forgets_23 rfl rfl ?_
      refine r_bipush (v := (-4)) dX12_forgets_24 rfl ?_
      obtain ⟨S26, hS26, h⟩ := b1_some h
      refine r_iastore sM_34 hS26 dX12_forgets_26 ?_
      refine r_aload_n 0 dX12_forgets_27 rfl rfl ?_
      refine r_getC (k := 0) (j := 51) (r := 35) sM_0 rfl fl_X12_121 dX12_forgets_28 ?_
      refine r_iload_n 1 dX12_forgets_31 rfl rfl ?_
      refine r_bipush (v := (-4)) dX12_forgets_32 rfl ?_
      obtain ⟨S27, hS27, h⟩ := b1_some h
      refine r_iastore sM_35 hS27 dX12_forgets_34 ?_
      refine r_aload_n 0 dX12_forgets_35 rfl rfl ?_
      refine r_getC (k := 0) (j := 52) (r := 36) sM_0 rfl fl_X12_124 dX12_forgets_36 ?_
      refine r_iload_n 1 dX12_forgets_39 rfl rfl ?_
      refine r_iconst (v := 0) dX12_forgets_40 rfl ?_
      obtain ⟨S28, hS28, h⟩ := b1_some h
      refine r_iastore sM_36 hS28 dX12_forgets_41 ?_
      refine r_aload_n 0 dX12_forgets_42 rfl rfl ?_
      refine r_getC (k := 0) (j := 54) (r := 37) sM_0 rfl fl_X12_127 dX12_forgets_43 ?_
      refine r_iload_n 1 dX12_forgets_46 rfl rfl ?_
      refine r_bipush (v := (-4)) dX12_forgets_47 rfl ?_
      obtain ⟨S29, hS29, h⟩ := b1_some h
      refine r_iastore sM_37 hS29 dX12_forgets_49 ?_
      refine r_aload_n 0 dX12_forgets_50 rfl rfl ?_
      refine r_getC (k := 0) (j := 55) (r := 38) sM_0 rfl fl_X12_130 dX12_forgets_51 ?_
      refine r_iload_n 1 dX12_forgets_54 rfl rfl ?_
      refine r_bipush (v := (-4)) dX12_forgets_55 rfl ?_
      obtain ⟨S30, hS30, h⟩ := b1_some h
      refine r_iastore sM_38 hS30 dX12_forgets_57 ?_
      refine r_iinc (v := v24 + 1) [(0, .ref (ad_ G 0)), (1, .int (v24 + 1))] 1 [1, 0] dX12_forgets_58 rfl rfl (by decide) rfl ?_
      refine r_goto 13 dX12_forgets_61 (by decide) ?_
      obtain rfl := Option.some.inj h
      exact hB (v24 + 1, S30) rfl
  obtain ⟨u32, hu32, h⟩ := b1_some h
  refine key u32 hu32 ?_
  show Rn G shM 1 yX12_forgets cX12_forgets 2 none 64 [(0, .ref (ad_ G 0))] [] u32 post
  refine r_aload_n 0 dX12_forgets_64 rfl rfl ?_
  obtain ⟨S33, hS33, h⟩ := b1_some h
  refine r_callVv (k := 0) (rest := []) (by omega) (mX12_takes hS33) sM_0 rfl rfl cb_X12_takes ml_X12_322 im_X12_takes se_X12_takes rfl rfl (Nat.le_of_ble_eq_true rfl) dX12_forgets_65 ?_
  obtain rfl := Option.some.inj h
  exact r_return rfl dX12_forgets_68 (hp)
theorem mX12_forgets {G : Gx} {S : St} {o : St}  (h : fX12_forgets S = some o) : MR_ G shM 1 yX12_forgets cX12_forgets 2 none [.ref (ad_ G 0)] S (PV_ o) := MR_of cb_X12_forgets (Nat.le_of_ble_eq_true rfl) [(0, .ref (ad_ G 0))] rfl (tX12_forgets  h ⟨rfl, rfl⟩)
set_option maxRecDepth 100000 in
set_option maxHeartbeats 4000000 in
theorem tX12_number {G : Gx} {post : Option Value → St → Prop} {S : St} {v1 : Int32} {v2 : Int32} {o : (Int32 × St)}  (h : fX12_number S v1 v2 = some o) (hp : post (some (.int o.1)) o.2) : Rn G shM 1 yX12_number cX12_number 3 (some .int) 0 [(0, .ref (ad_ G 0)), (1, .int v1), (2, .int v2)] [] S post := by
  unfold fX12_number at h
  refine r_aload_n 0 dX12_number_0 rfl rfl ?_
  refine r_aload_n 0 dX12_number_1 rfl rfl ?_
  refine r_getI (k := 0) (j := 39) sM_0 rfl fl_X12_288 dX12_number_2 ?_
  refine r_iconst (v := 3) dX12_number_5 rfl ?_
  obtain ⟨w21, hw21, h⟩ := b1_some h
  have hJ : Rn G shM 1 yX12_number cX12_number 3 (some .int) 14 [(0, .ref (ad_ G 0)), (1, .int v1), (2, .int v2)] [.int w21, .ref (ad_ G 0)] S post := by
    refine r_iconst (v := 2) dX12_number_14 rfl ?_
    obtain ⟨S22, hS22, h⟩ := b1_some h
    refine r_callVv (k := 0) (rest := []) (by omega) (mX12_wants hS22) sM_0 rfl rfl cb_X12_wants ml_X12_301 im_X12_wants se_X12_wants rfl rfl (Nat.le_of_ble_eq_true rfl) dX12_number_15 ?_
    refine r_aload_n 0 dX12_number_18 rfl rfl ?_
    refine r_getI (k := 0) (j := 41) sM_0 rfl fl_X12_270 dX12_number_19 ?_
    refine r_if_ne 42 dX12_number_22 (by decide) (fun c25 => ?_) (fun c25 => ?_)
    · rw [if_neg c25] at h
      refine r_aload_n 0 dX12_number_42 rfl rfl ?_
      refine r_getI (k := 0) (j := 40) sM_0 rfl fl_X12_298 dX12_number_43 ?_
      obtain rfl := Option.some.inj h
      exact r_ireturn rfl dX12_number_46 (hp)
    · rw [if_pos c25] at h
      refine r_aload_n 0 dX12_number_25 rfl rfl ?_
      refine r_aload_n 0 dX12_number_26 rfl rfl ?_
      refine r_getI (k := 0) (j := 40) sM_0 rfl fl_X12_298 dX12_number_27 ?_
      refine r_i2l dX12_number_30 ?_
      refine r_iload_n 1 dX12_number_31 rfl rfl ?_
      refine r_i2l dX12_number_32 ?_
      refine r_iload_n 2 dX12_number_33 rfl rfl ?_
      refine r_i2l dX12_number_34 ?_
      obtain ⟨x23, hx23, h⟩ := b1_some h
      refine r_callSi (rest := [.ref (ad_ G 0)]) (by omega) (mX12_in hx23) cb_X12_in ml_X12_145 sm_X12_in rfl rfl (Nat.le_of_ble_eq_true rfl) dX12_number_35 ?_
      refine r_iconst (v := 3) dX12_number_38 rfl ?_
      obtain ⟨S24, hS24, h⟩ := b1_some h
      refine r_callVv (k := 0) (rest := []) (by omega) (mX12_wants hS24) sM_0 rfl rfl cb_X12_wants ml_X12_301 im_X12_wants se_X12_wants rfl rfl (Nat.le_of_ble_eq_true rfl) dX12_number_39 ?_
      refine r_aload_n 0 dX12_number_42 rfl rfl ?_
      refine r_getI (k := 0) (j := 40) sM_0 rfl fl_X12_298 dX12_number_43 ?_
      obtain rfl := Option.some.inj h
      exact r_ireturn rfl dX12_number_46 (hp)
  clear h
  replace h := hw21
  refine r_icmp_ne 13 dX12_number_6 (by decide) (fun c26 => ?_) (fun c26 => ?_)
  · rw [if_neg c26] at h
    refine r_iconst (v := 0) dX12_number_13 rfl ?_
    obtain rfl := Option.some.inj h
    exact hJ
  · rw [if_pos c26] at h
    refine r_iconst (v := 1) dX12_number_9 rfl ?_
    refine r_goto 14 dX12_number_10 (by decide) ?_
    obtain rfl := Option.some.inj h
    exact hJ
theorem mX12_number {G : Gx} {S : St} {v1 : Int32} {v2 : Int32} {o : (Int32 × St)}  (h : fX12_number S v1 v2 = some o) : MR_ G shM 1 yX12_number cX12_number 3 (some .int) [.ref (ad_ G 0), .int v1, .int v2] S (PI_ o.1 o.2) := MR_of cb_X12_number (Nat.le_of_ble_eq_true rfl) [(0, .ref (ad_ G 0)), (1, .int v1), (2, .int v2)] rfl (tX12_number  h ⟨rfl, rfl⟩)
set_option maxRecDepth 100000 in
set_option maxHeartbeats 4000000 in
theorem tX12_letter {G : Gx} {post : Option Value → St → Prop} {S : St} {o : (Int32 × St)}  (h : fX12_letter S = some o) (hp : post (some (.int o.1)) o.2) : Rn G shM 1 yX12_letter cX12_letter 1 (some .int) 0 [(0, .ref (ad_ G 0))] [] S post := by
  unfold fX12_letter at h
  refine r_aload_n 0 dX12_letter_0 rfl rfl ?_
  refine r_aload_n 0 dX12_letter_1 rfl rfl ?_
  refine r_getI (k := 0) (j := 39) sM_0 rfl fl_X12_288 dX12_letter_2 ?_
  refine r_iconst (v := 2) dX12_letter_5 rfl ?_
  obtain ⟨w21, hw21, h⟩ := b1_some h
  have hJ : Rn G shM 1 yX12_letter cX12_letter 1 (some .int) 14 [(0, .ref (ad_ G 0))] [.int w21, .ref (ad_ G 0)] S post := by
    refine r_iconst (v := 2) dX12_letter_14 rfl ?_
    obtain ⟨S22, hS22, h⟩ := b1_some h
    refine r_callVv (k := 0) (rest := []) (by omega) (mX12_wants hS22) sM_0 rfl rfl cb_X12_wants ml_X12_301 im_X12_wants se_X12_wants rfl rfl (Nat.le_of_ble_eq_true rfl) dX12_letter_15 ?_
    refine r_aload_n 0 dX12_letter_18 rfl rfl ?_
    refine r_getI (k := 0) (j := 40) sM_0 rfl fl_X12_298 dX12_letter_19 ?_
    obtain rfl := Option.some.inj h
    exact r_ireturn rfl dX12_letter_22 (hp)
  clear h
  replace h := hw21
  refine r_icmp_ne 13 dX12_letter_6 (by decide) (fun c23 => ?_) (fun c23 => ?_)
  · rw [if_neg c23] at h
    refine r_iconst (v := 0) dX12_letter_13 rfl ?_
    obtain rfl := Option.some.inj h
    exact hJ
  · rw [if_pos c23] at h
    refine r_iconst (v := 1) dX12_letter_9 rfl ?_
    refine r_goto 14 dX12_letter_10 (by decide) ?_
    obtain rfl := Option.some.inj h
    exact hJ
theorem mX12_letter {G : Gx} {S : St} {o : (Int32 × St)}  (h : fX12_letter S = some o) : MR_ G shM 1 yX12_letter cX12_letter 1 (some .int) [.ref (ad_ G 0)] S (PI_ o.1 o.2) := MR_of cb_X12_letter (Nat.le_of_ble_eq_true rfl) [(0, .ref (ad_ G 0))] rfl (tX12_letter  h ⟨rfl, rfl⟩)
set_option maxRecDepth 100000 in
set_option maxHeartbeats 4000000 in
theorem tX12_readStamp {G : Gx} {post : Option Value → St → Prop} {S : St} {o : St}  (h : fX12_readStamp S = some o) (hp : post none o) : Rn G shM 5 yX12_readStamp cX12_readStamp 4 none 0 [(0, .ref (ad_ G 0))] [] S post := by
  unfold fX12_readStamp at h
  refine r_aload_n 0 dX12_readStamp_0 rfl rfl ?_
  refine r_iconst (v := 0) dX12_readStamp_1 rfl ?_
  refine r_bipush (v := 7) dX12_readStamp_2 rfl ?_
  obtain ⟨q21, hq21, h⟩ := b1_some h
  refine r_callVi (k := 0) (rest := []) (by omega) (mX12_number hq21) sM_0 rfl rfl cb_X12_number ml_X12_331 im_X12_number se_X12_number rfl rfl (Nat.le_of_ble_eq_true rfl) dX12_readStamp_4 ?_
  refine r_istore_n (i := 1) [(0, .ref (ad_ G 0)), (1, .int q21.1)] [1, 0] dX12_readStamp_7 rfl (by decide) rfl ?_
  refine r_aload_n 0 dX12_readStamp_8 rfl rfl ?_
  refine r_getI (k := 0) (j := 41) sM_0 rfl fl_X12_270 dX12_readStamp_9 ?_
  obtain ⟨w22, hw22, h⟩ := b1_some h
  have hJ : Rn G shM 5 yX12_readStamp cX12_readStamp 4 none 36 [(0, .ref (ad_ G 0)), (1, .int q21.1)] [] w22 post := by
    refine r_aload_n 0 dX12_readStamp_36 rfl rfl ?_
    obtain ⟨S23, hS23, h⟩ := b1_some h
    refine r_callVv (k := 0) (rest := []) (by omega) (mX12_goesOn hS23) sM_0 rfl rfl cb_X12_goesOn ml_X12_334 im_X12_goesOn se_X12_goesOn rfl rfl (Nat.le_of_ble_eq_true rfl) dX12_readStamp_37 ?_
    refine r_aload_n 0 dX12_readStamp_40 rfl rfl ?_
    refine r_getI (k := 0) (j := 41) sM_0 rfl fl_X12_270 dX12_readStamp_41 ?_
    obtain ⟨w24, hw24, h⟩ := b1_some h
    have hJ : Rn G shM 5 yX12_readStamp cX12_readStamp 4 none 61 [(0, .ref (ad_ G 0)), (1, .int q21.1)] [.int w24.1] w24.2 post := by
      refine r_istore_n (i := 2) [(0, .ref (ad_ G 0)), (1, .int q21.1), (2, .int w24.1)] [1, 2, 0] dX12_readStamp_61 rfl (by decide) rfl ?_
      refine r_aload_n 0 dX12_readStamp_62 rfl rfl ?_
      obtain ⟨S25, hS25, h⟩ := b1_some h
      refine r_callVv (k := 0) (rest := []) (by omega) (mX12_goesOn hS25) sM_0 rfl rfl cb_X12_goesOn ml_X12_334 im_X12_goesOn se_X12_goesOn rfl rfl (Nat.le_of_ble_eq_true rfl) dX12_readStamp_63 ?_
      refine r_aload_n 0 dX12_readStamp_66 rfl rfl ?_
      refine r_getI (k := 0) (j := 41) sM_0 rfl fl_X12_270 dX12_readStamp_67 ?_
      obtain ⟨w26, hw26, h⟩ := b1_some h
      have hJ : Rn G shM 5 yX12_readStamp cX12_readStamp 4 none 85 [(0, .ref (ad_ G 0)), (1, .int q21.1), (2, .int w24.1)] [.int w26.1] w26.2 post := by
        refine r_istore_n (i := 3) [(0, .ref (ad_ G 0)), (1, .int q21.1), (2, .int w24.1), (3, .int w26.1)] [1, 2, 3, 0] dX12_readStamp_85 rfl (by decide) rfl ?_
        refine r_aload_n 0 dX12_readStamp_86 rfl rfl ?_
        refine r_getI (k := 0) (j := 41) sM_0 rfl fl_X12_270 dX12_readStamp_87 ?_
        refine r_if_ne 107 dX12_readStamp_90 (by decide) (fun c29 => ?_) (fun c29 => ?_)
        · rw [if_neg c29] at h
          obtain rfl := Option.some.inj h
          exact r_return rfl dX12_readStamp_107 (hp)
        · rw [if_pos c29] at h
          refine r_aload_n 0 dX12_readStamp_93 rfl rfl ?_
          refine r_getC (k := 0) (j := 50) (r := 34) sM_0 rfl fl_X12_118 dX12_readStamp_94 ?_
          refine r_iload_n 1 dX12_readStamp_97 rfl rfl ?_
          refine r_iload_n 2 dX12_readStamp_98 rfl rfl ?_
          obtain ⟨S27, hS27, h⟩ := b1_some h
          refine r_iastore sM_34 hS27 dX12_readStamp_99 ?_
          refine r_aload_n 0 dX12_readStamp_100 rfl rfl ?_
          refine r_getC (k := 0) (j := 51) (r := 35) sM_0 rfl fl_X12_121 dX12_readStamp_101 ?_
          refine r_iload_n 1 dX12_readStamp_104 rfl rfl ?_
          refine r_iload_n 3 dX12_readStamp_105 rfl rfl ?_
          obtain ⟨S28, hS28, h⟩ := b1_some h
          refine r_iastore sM_35 hS28 dX12_readStamp_106 ?_
          obtain rfl := Option.some.inj h
          exact r_return rfl dX12_readStamp_107 (hp)
      clear h
      replace h := hw26
      refine r_if_ne 84 dX12_readStamp_70 (by decide) (fun c31 => ?_) (fun c31 => ?_)
      · rw [if_neg c31] at h
        refine r_iconst (v := 0) dX12_readStamp_84 rfl ?_
        obtain rfl := Option.some.inj h
        exact hJ
      · rw [if_pos c31] at h
        refine r_aload_n 0 dX12_readStamp_73 rfl rfl ?_
        refine r_iload_n 2 dX12_readStamp_74 rfl rfl ?_
        refine r_sipush (v := 2000) dX12_readStamp_75 rfl ?_
        obtain ⟨q30, hq30, h⟩ := b1_some h
        refine r_callVi (k := 0) (rest := []) (by omega) (mX12_number hq30) sM_0 rfl rfl cb_X12_number ml_X12_331 im_X12_number se_X12_number rfl rfl (Nat.le_of_ble_eq_true rfl) dX12_readStamp_78 ?_
        refine r_goto 85 dX12_readStamp_81 (by decide) ?_
        obtain rfl := Option.some.inj h
        exact hJ
    clear h
    replace h := hw24
    refine r_if_ne 60 dX12_readStamp_44 (by decide) (fun c33 => ?_) (fun c33 => ?_)
    · rw [if_neg c33] at h
      refine r_iconst (v := 0) dX12_readStamp_60 rfl ?_
      obtain rfl := Option.some.inj h
      exact hJ
    · rw [if_pos c33] at h
      refine r_aload_n 0 dX12_readStamp_47 rfl rfl ?_
      refine r_sipush (v := 1800) dX12_readStamp_48 rfl ?_
      refine r_sipush (v := 2000) dX12_readStamp_51 rfl ?_
      obtain ⟨q32, hq32, h⟩ := b1_some h
      refine r_callVi (k := 0) (rest := []) (by omega) (mX12_number hq32) sM_0 rfl rfl cb_X12_number ml_X12_331 im_X12_number se_X12_number rfl rfl (Nat.le_of_ble_eq_true rfl) dX12_readStamp_54 ?_
      refine r_goto 61 dX12_readStamp_57 (by decide) ?_
      obtain rfl := Option.some.inj h
      exact hJ
  clear h
  replace h := hw22
  refine r_if_ne 36 dX12_readStamp_12 (by decide) (fun c38 => ?_) (fun c38 => ?_)
  · rw [if_neg c38] at h
    obtain rfl := Option.some.inj h
    exact hJ
  · rw [if_pos c38] at h
    refine r_aload_n 0 dX12_readStamp_15 rfl rfl ?_
    refine r_aload_n 0 dX12_readStamp_16 rfl rfl ?_
    refine r_getC (k := 0) (j := 50) (r := 34) sM_0 rfl fl_X12_118 dX12_readStamp_17 ?_
    refine r_iload_n 1 dX12_readStamp_20 rfl rfl ?_
    obtain ⟨x34, hx34, h⟩ := b1_some h
    refine r_iaload sM_34 hx34 dX12_readStamp_21 ?_
    refine r_bipush (v := (-4)) dX12_readStamp_22 rfl ?_
    obtain ⟨w35, hw35, h⟩ := b1_some h
    have hJ : Rn G shM 5 yX12_readStamp cX12_readStamp 4 none 32 [(0, .ref (ad_ G 0)), (1, .int q21.1)] [.int w35, .ref (ad_ G 0)] q21.2 post := by
      refine r_iconst (v := 4) dX12_readStamp_32 rfl ?_
      obtain ⟨S36, hS36, h⟩ := b1_some h
      refine r_callVv (k := 0) (rest := []) (by omega) (mX12_wants hS36) sM_0 rfl rfl cb_X12_wants ml_X12_301 im_X12_wants se_X12_wants rfl rfl (Nat.le_of_ble_eq_true rfl) dX12_readStamp_33 ?_
      obtain rfl := Option.some.inj h
      exact hJ
    clear h
    replace h := hw35
    refine r_icmp_ne 31 dX12_readStamp_24 (by decide) (fun c37 => ?_) (fun c37 => ?_)
    · rw [if_neg c37] at h
      refine r_iconst (v := 0) dX12_readStamp_31 rfl ?_
      obtain rfl := Option.some.inj h
      exact hJ
    · rw [if_pos c37] at h
      refine r_iconst (v := 1) dX12_readStamp_27 rfl ?_
      refine r_goto 32 dX12_readStamp_28 (by decide) ?_
      obtain rfl := Option.some.inj h
      exact hJ
theorem mX12_readStamp {G : Gx} {S : St} {o : St}  (h : fX12_readStamp S = some o) : MR_ G shM 5 yX12_readStamp cX12_readStamp 4 none [.ref (ad_ G 0)] S (PV_ o) := MR_of cb_X12_readStamp (Nat.le_of_ble_eq_true rfl) [(0, .ref (ad_ G 0))] rfl (tX12_readStamp  h ⟨rfl, rfl⟩)
set_option maxRecDepth 100000 in
set_option maxHeartbeats 4000000 in
theorem tX12_readBar {G : Gx} {post : Option Value → St → Prop} {S : St} {o : St}  (h : fX12_readBar S = some o) (hp : post none o) : Rn G shM 5 yX12_readBar cX12_readBar 3 none 0 [(0, .ref (ad_ G 0))] [] S post := by
  unfold fX12_readBar at h
  refine r_aload_n 0 dX12_readBar_0 rfl rfl ?_
  refine r_iconst (v := 0) dX12_readBar_1 rfl ?_
  refine r_bipush (v := 7) dX12_readBar_2 rfl ?_
  obtain ⟨q21, hq21, h⟩ := b1_some h
  refine r_callVi (k := 0) (rest := []) (by omega) (mX12_number hq21) sM_0 rfl rfl cb_X12_number ml_X12_331 im_X12_number se_X12_number rfl rfl (Nat.le_of_ble_eq_true rfl) dX12_readBar_4 ?_
  refine r_istore_n (i := 1) [(0, .ref (ad_ G 0)), (1, .int q21.1)] [1, 0] dX12_readBar_7 rfl (by decide) rfl ?_
  refine r_aload_n 0 dX12_readBar_8 rfl rfl ?_
  obtain ⟨S22, hS22, h⟩ := b1_some h
  refine r_callVv (k := 0) (rest := []) (by omega) (mX12_goesOn hS22) sM_0 rfl rfl cb_X12_goesOn ml_X12_334 im_X12_goesOn se_X12_goesOn rfl rfl (Nat.le_of_ble_eq_true rfl) dX12_readBar_9 ?_
  refine r_aload_n 0 dX12_readBar_12 rfl rfl ?_
  refine r_getI (k := 0) (j := 41) sM_0 rfl fl_X12_270 dX12_readBar_13 ?_
  obtain ⟨w23, hw23, h⟩ := b1_some h
  have hJ : Rn G shM 5 yX12_readBar cX12_readBar 3 none 30 [(0, .ref (ad_ G 0)), (1, .int q21.1)] [.int w23.1] w23.2 post := by
    refine r_istore_n (i := 2) [(0, .ref (ad_ G 0)), (1, .int q21.1), (2, .int w23.1)] [1, 2, 0] dX12_readBar_30 rfl (by decide) rfl ?_
    refine r_aload_n 0 dX12_readBar_31 rfl rfl ?_
    refine r_getI (k := 0) (j := 41) sM_0 rfl fl_X12_270 dX12_readBar_32 ?_
    obtain ⟨w24, hw24, h⟩ := b1_some h
    have hJ : Rn G shM 5 yX12_readBar cX12_readBar 3 none 53 [(0, .ref (ad_ G 0)), (1, .int q21.1), (2, .int w23.1)] [] w24 post := by
      refine r_aload_n 0 dX12_readBar_53 rfl rfl ?_
      refine r_getI (k := 0) (j := 41) sM_0 rfl fl_X12_270 dX12_readBar_54 ?_
      refine r_if_ne 84 dX12_readBar_57 (by decide) (fun c29 => ?_) (fun c29 => ?_)
      · rw [if_neg c29] at h
        obtain rfl := Option.some.inj h
        exact r_return rfl dX12_readBar_84 (hp)
      · rw [if_pos c29] at h
        refine r_aload_n 0 dX12_readBar_60 rfl rfl ?_
        refine r_getC (k := 0) (j := 52) (r := 36) sM_0 rfl fl_X12_124 dX12_readBar_61 ?_
        refine r_iload_n 1 dX12_readBar_64 rfl rfl ?_
        refine r_dup2_11 dX12_readBar_65 rfl rfl ?_
        obtain ⟨x25, hx25, h⟩ := b1_some h
        refine r_iaload sM_36 hx25 dX12_readBar_66 ?_
        refine r_iconst (v := 1) dX12_readBar_67 rfl ?_
        refine r_iload_n 2 dX12_readBar_68 rfl rfl ?_
        refine r_ishl dX12_readBar_69 ?_
        refine r_ior dX12_readBar_70 ?_
        obtain ⟨S26, hS26, h⟩ := b1_some h
        refine r_iastore sM_36 hS26 dX12_readBar_71 ?_
        refine r_aload_n 0 dX12_readBar_72 rfl rfl ?_
        refine r_getC (k := 0) (j := 52) (r := 36) sM_0 rfl fl_X12_124 dX12_readBar_73 ?_
        refine r_iload_n 2 dX12_readBar_76 rfl rfl ?_
        refine r_dup2_11 dX12_readBar_77 rfl rfl ?_
        obtain ⟨x27, hx27, h⟩ := b1_some h
        refine r_iaload sM_36 hx27 dX12_readBar_78 ?_
        refine r_iconst (v := 1) dX12_readBar_79 rfl ?_
        refine r_iload_n 1 dX12_readBar_80 rfl rfl ?_
        refine r_ishl dX12_readBar_81 ?_
        refine r_ior dX12_readBar_82 ?_
        obtain ⟨S28, hS28, h⟩ := b1_some h
        refine r_iastore sM_36 hS28 dX12_readBar_83 ?_
        obtain rfl := Option.some.inj h
        exact r_return rfl dX12_readBar_84 (hp)
    clear h
    replace h := hw24
    refine r_if_ne 53 dX12_readBar_35 (by decide) (fun c33 => ?_) (fun c33 => ?_)
    · rw [if_neg c33] at h
      obtain rfl := Option.some.inj h
      exact hJ
    · rw [if_pos c33] at h
      refine r_aload_n 0 dX12_readBar_38 rfl rfl ?_
      refine r_iload_n 1 dX12_readBar_39 rfl rfl ?_
      refine r_iload_n 2 dX12_readBar_40 rfl rfl ?_
      obtain ⟨w30, hw30, h⟩ := b1_some h
      have hJ : Rn G shM 5 yX12_readBar cX12_readBar 3 none 49 [(0, .ref (ad_ G 0)), (1, .int q21.1), (2, .int w23.1)] [.int w30, .ref (ad_ G 0)] w23.2 post := by
        refine r_iconst (v := 3) dX12_readBar_49 rfl ?_
        obtain ⟨S31, hS31, h⟩ := b1_some h
        refine r_callVv (k := 0) (rest := []) (by omega) (mX12_wants hS31) sM_0 rfl rfl cb_X12_wants ml_X12_301 im_X12_wants se_X12_wants rfl rfl (Nat.le_of_ble_eq_true rfl) dX12_readBar_50 ?_
        obtain rfl := Option.some.inj h
        exact hJ
      clear h
      replace h := hw30
      refine r_icmp_eq 48 dX12_readBar_41 (by decide) (fun c32 => ?_) (fun c32 => ?_)
      · rw [if_pos c32] at h
        refine r_iconst (v := 0) dX12_readBar_48 rfl ?_
        obtain rfl := Option.some.inj h
        exact hJ
      · rw [if_neg c32] at h
        refine r_iconst (v := 1) dX12_readBar_44 rfl ?_
        refine r_goto 49 dX12_readBar_45 (by decide) ?_
        obtain rfl := Option.some.inj h
        exact hJ
  clear h
  replace h := hw23
  refine r_if_ne 29 dX12_readBar_16 (by decide) (fun c35 => ?_) (fun c35 => ?_)
  · rw [if_neg c35] at h
    refine r_iconst (v := 0) dX12_readBar_29 rfl ?_
    obtain rfl := Option.some.inj h
    exact hJ
  · rw [if_pos c35] at h
    refine r_aload_n 0 dX12_readBar_19 rfl rfl ?_
    refine r_iconst (v := 0) dX12_readBar_20 rfl ?_
    refine r_bipush (v := 7) dX12_readBar_21 rfl ?_
    obtain ⟨q34, hq34, h⟩ := b1_some h
    refine r_callVi (k := 0) (rest := []) (by omega) (mX12_number hq34) sM_0 rfl rfl cb_X12_number ml_X12_331 im_X12_number se_X12_number rfl rfl (Nat.le_of_ble_eq_true rfl) dX12_readBar_23 ?_
    refine r_goto 30 dX12_readBar_26 (by decide) ?_
    obtain rfl := Option.some.inj h
    exact hJ
theorem mX12_readBar {G : Gx} {S : St} {o : St}  (h : fX12_readBar S = some o) : MR_ G shM 5 yX12_readBar cX12_readBar 3 none [.ref (ad_ G 0)] S (PV_ o) := MR_of cb_X12_readBar (Nat.le_of_ble_eq_true rfl) [(0, .ref (ad_ G 0))] rfl (tX12_readBar  h ⟨rfl, rfl⟩)
set_option maxRecDepth 100000 in
set_option maxHeartbeats 4000000 in
theorem tX12_readLeast {G : Gx} {post : Option Value → St → Prop} {S : St} {o : St}  (h : fX12_readLeast S = some o) (hp : post none o) : Rn G shM 5 yX12_readLeast cX12_readLeast 3 none 0 [(0, .ref (ad_ G 0))] [] S post := by
  unfold fX12_readLeast at h
  refine r_aload_n 0 dX12_readLeast_0 rfl rfl ?_
  obtain ⟨q21, hq21, h⟩ := b1_some h
  refine r_callVi (k := 0) (rest := []) (by omega) (mX12_letter hq21) sM_0 rfl rfl cb_X12_letter ml_X12_337 im_X12_letter se_X12_letter rfl rfl (Nat.le_of_ble_eq_true rfl) dX12_readLeast_1 ?_
  refine r_istore_n (i := 1) [(0, .ref (ad_ G 0)), (1, .int q21.1)] [1, 0] dX12_readLeast_4 rfl (by decide) rfl ?_
  refine r_aload_n 0 dX12_readLeast_5 rfl rfl ?_
  refine r_getI (k := 0) (j := 41) sM_0 rfl fl_X12_270 dX12_readLeast_6 ?_
  obtain ⟨w22, hw22, h⟩ := b1_some h
  have hJ : Rn G shM 5 yX12_readLeast cX12_readLeast 3 none 33 [(0, .ref (ad_ G 0)), (1, .int q21.1)] [] w22 post := by
    refine r_aload_n 0 dX12_readLeast_33 rfl rfl ?_
    obtain ⟨S23, hS23, h⟩ := b1_some h
    refine r_callVv (k := 0) (rest := []) (by omega) (mX12_goesOn hS23) sM_0 rfl rfl cb_X12_goesOn ml_X12_334 im_X12_goesOn se_X12_goesOn rfl rfl (Nat.le_of_ble_eq_true rfl) dX12_readLeast_34 ?_
    refine r_aload_n 0 dX12_readLeast_37 rfl rfl ?_
    refine r_getI (k := 0) (j := 41) sM_0 rfl fl_X12_270 dX12_readLeast_38 ?_
    obtain ⟨w24, hw24, h⟩ := b1_some h
    have hJ : Rn G shM 5 yX12_readLeast cX12_readLeast 3 none 54 [(0, .ref (ad_ G 0)), (1, .int q21.1)] [.int w24.1] w24.2 post := by
      refine r_istore_n (i := 2) [(0, .ref (ad_ G 0)), (1, .int q21.1), (2, .int w24.1)] [1, 2, 0] dX12_readLeast_54 rfl (by decide) rfl ?_
      refine r_aload_n 0 dX12_readLeast_55 rfl rfl ?_
      refine r_getI (k := 0) (j := 41) sM_0 rfl fl_X12_270 dX12_readLeast_56 ?_
      refine r_if_ne 69 dX12_readLeast_59 (by decide) (fun c26 => ?_) (fun c26 => ?_)
      · rw [if_neg c26] at h
        obtain rfl := Option.some.inj h
        exact r_return rfl dX12_readLeast_69 (hp)
      · rw [if_pos c26] at h
        refine r_aload_n 0 dX12_readLeast_62 rfl rfl ?_
        refine r_getC (k := 0) (j := 54) (r := 37) sM_0 rfl fl_X12_127 dX12_readLeast_63 ?_
        refine r_iload_n 1 dX12_readLeast_66 rfl rfl ?_
        refine r_iload_n 2 dX12_readLeast_67 rfl rfl ?_
        obtain ⟨S25, hS25, h⟩ := b1_some h
        refine r_iastore sM_37 hS25 dX12_readLeast_68 ?_
        obtain rfl := Option.some.inj h
        exact r_return rfl dX12_readLeast_69 (hp)
    clear h
    replace h := hw24
    refine r_if_ne 53 dX12_readLeast_41 (by decide) (fun c28 => ?_) (fun c28 => ?_)
    · rw [if_neg c28] at h
      refine r_iconst (v := 0) dX12_readLeast_53 rfl ?_
      obtain rfl := Option.some.inj h
      exact hJ
    · rw [if_pos c28] at h
      refine r_aload_n 0 dX12_readLeast_44 rfl rfl ?_
      refine r_iconst (v := 0) dX12_readLeast_45 rfl ?_
      refine r_iconst (v := 5) dX12_readLeast_46 rfl ?_
      obtain ⟨q27, hq27, h⟩ := b1_some h
      refine r_callVi (k := 0) (rest := []) (by omega) (mX12_number hq27) sM_0 rfl rfl cb_X12_number ml_X12_331 im_X12_number se_X12_number rfl rfl (Nat.le_of_ble_eq_true rfl) dX12_readLeast_47 ?_
      refine r_goto 54 dX12_readLeast_50 (by decide) ?_
      obtain rfl := Option.some.inj h
      exact hJ
  clear h
  replace h := hw22
  refine r_if_ne 33 dX12_readLeast_9 (by decide) (fun c33 => ?_) (fun c33 => ?_)
  · rw [if_neg c33] at h
    obtain rfl := Option.some.inj h
    exact hJ
  · rw [if_pos c33] at h
    refine r_aload_n 0 dX12_readLeast_12 rfl rfl ?_
    refine r_aload_n 0 dX12_readLeast_13 rfl rfl ?_
    refine r_getC (k := 0) (j := 54) (r := 37) sM_0 rfl fl_X12_127 dX12_readLeast_14 ?_
    refine r_iload_n 1 dX12_readLeast_17 rfl rfl ?_
    obtain ⟨x29, hx29, h⟩ := b1_some h
    refine r_iaload sM_37 hx29 dX12_readLeast_18 ?_
    refine r_bipush (v := (-4)) dX12_readLeast_19 rfl ?_
    obtain ⟨w30, hw30, h⟩ := b1_some h
    have hJ : Rn G shM 5 yX12_readLeast cX12_readLeast 3 none 29 [(0, .ref (ad_ G 0)), (1, .int q21.1)] [.int w30, .ref (ad_ G 0)] q21.2 post := by
      refine r_iconst (v := 4) dX12_readLeast_29 rfl ?_
      obtain ⟨S31, hS31, h⟩ := b1_some h
      refine r_callVv (k := 0) (rest := []) (by omega) (mX12_wants hS31) sM_0 rfl rfl cb_X12_wants ml_X12_301 im_X12_wants se_X12_wants rfl rfl (Nat.le_of_ble_eq_true rfl) dX12_readLeast_30 ?_
      obtain rfl := Option.some.inj h
      exact hJ
    clear h
    replace h := hw30
    refine r_icmp_ne 28 dX12_readLeast_21 (by decide) (fun c32 => ?_) (fun c32 => ?_)
    · rw [if_neg c32] at h
      refine r_iconst (v := 0) dX12_readLeast_28 rfl ?_
      obtain rfl := Option.some.inj h
      exact hJ
    · rw [if_pos c32] at h
      refine r_iconst (v := 1) dX12_readLeast_24 rfl ?_
      refine r_goto 29 dX12_readLeast_25 (by decide) ?_
      obtain rfl := Option.some.inj h
      exact hJ
theorem mX12_readLeast {G : Gx} {S : St} {o : St}  (h : fX12_readLeast S = some o) : MR_ G shM 5 yX12_readLeast cX12_readLeast 3 none [.ref (ad_ G 0)] S (PV_ o) := MR_of cb_X12_readLeast (Nat.le_of_ble_eq_true rfl) [(0, .ref (ad_ G 0))] rfl (tX12_readLeast  h ⟨rfl, rfl⟩)
set_option maxRecDepth 100000 in
set_option maxHeartbeats 4000000 in
theorem tX12_readSecond {G : Gx} {post : Option Value → St → Prop} {S : St} {o : St}  (h : fX12_readSecond S = some o) (hp : post none o) : Rn G shM 5 yX12_readSecond cX12_readSecond 4 none 0 [(0, .ref (ad_ G 0))] [] S post := by
  unfold fX12_readSecond at h
  refine r_aload_n 0 dX12_readSecond_0 rfl rfl ?_
  obtain ⟨q21, hq21, h⟩ := b1_some h
  refine r_callVi (k := 0) (rest := []) (by omega) (mX12_letter hq21) sM_0 rfl rfl cb_X12_letter ml_X12_337 im_X12_letter se_X12_letter rfl rfl (Nat.le_of_ble_eq_true rfl) dX12_readSecond_1 ?_
  refine r_istore_n (i := 1) [(0, .ref (ad_ G 0)), (1, .int q21.1)] [1, 0] dX12_readSecond_4 rfl (by decide) rfl ?_
  refine r_aload_n 0 dX12_readSecond_5 rfl rfl ?_
  refine r_getI (k := 0) (j := 41) sM_0 rfl fl_X12_270 dX12_readSecond_6 ?_
  obtain ⟨w22, hw22, h⟩ := b1_some h
  have hJ : Rn G shM 5 yX12_readSecond cX12_readSecond 4 none 33 [(0, .ref (ad_ G 0)), (1, .int q21.1)] [] w22 post := by
    refine r_aload_n 0 dX12_readSecond_33 rfl rfl ?_
    obtain ⟨S23, hS23, h⟩ := b1_some h
    refine r_callVv (k := 0) (rest := []) (by omega) (mX12_goesOn hS23) sM_0 rfl rfl cb_X12_goesOn ml_X12_334 im_X12_goesOn se_X12_goesOn rfl rfl (Nat.le_of_ble_eq_true rfl) dX12_readSecond_34 ?_
    refine r_aload_n 0 dX12_readSecond_37 rfl rfl ?_
    refine r_getI (k := 0) (j := 41) sM_0 rfl fl_X12_270 dX12_readSecond_38 ?_
    obtain ⟨w24, hw24, h⟩ := b1_some h
    have hJ : Rn G shM 5 yX12_readSecond cX12_readSecond 4 none 52 [(0, .ref (ad_ G 0)), (1, .int q21.1)] [.int w24.1] w24.2 post := by
      refine r_istore_n (i := 2) [(0, .ref (ad_ G 0)), (1, .int q21.1), (2, .int w24.1)] [1, 2, 0] dX12_readSecond_52 rfl (by decide) rfl ?_
      refine r_aload_n 0 dX12_readSecond_53 rfl rfl ?_
      refine r_getI (k := 0) (j := 41) sM_0 rfl fl_X12_270 dX12_readSecond_54 ?_
      refine r_if_le 61 dX12_readSecond_57 (by decide) (fun c35 => ?_) (fun c35 => ?_)
      · rw [if_pos c35] at h
        refine r_iload_n 2 dX12_readSecond_61 rfl rfl ?_
        refine r_istore_n (i := 3) [(0, .ref (ad_ G 0)), (1, .int q21.1), (2, .int w24.1), (3, .int w24.1)] [1, 2, 3, 0] dX12_readSecond_62 rfl (by decide) rfl ?_
        have key : ∀ ex, lp (fun w25 : Int32 => bX12_readSecond_63 q21 w24 w25) 5000 w24.1 = some ex → (fun u30 : Int32 => Rn G shM 5 yX12_readSecond cX12_readSecond 4 none 84 [(0, .ref (ad_ G 0)), (1, .int q21.1), (2, .int w24.1), (3, .int u30)] [] w24.2 post) ex → Rn G shM 5 yX12_readSecond cX12_readSecond 4 none 63 [(0, .ref (ad_ G 0)), (1, .int q21.1), (2, .int w24.1), (3, .int w24.1)] [] w24.2 post := by
          intro ex hl hx
          refine lp_rule (body := (fun w25 : Int32 => bX12_readSecond_63 q21 w24 w25)) (R := (fun w25 : Int32 => Rn G shM 5 yX12_readSecond cX12_readSecond 4 none 63 [(0, .ref (ad_ G 0)), (1, .int q21.1), (2, .int w24.1), (3, .int w25)] [] w24.2 post)) (X := (fun u30 : Int32 => Rn G shM 5 yX12_readSecond cX12_readSecond 4 none 84 [(0, .ref (ad_ G 0)), (1, .int q21.1), (2, .int w24.1), (3, .int u30)] [] w24.2 post)) ?_ 5000 w24.1 ex hl hx
          intro w25 oo h hB hX
          obtain ⟨v26, rfl⟩ : ∃ z, z = w25 := ⟨_, rfl⟩
          replace h : bX12_readSecond_63 q21 w24 v26 = some oo := h
          unfold bX12_readSecond_63 at h
          show Rn G shM 5 yX12_readSecond cX12_readSecond 4 none 63 [(0, .ref (ad_ G 0)), (1, .int q21.1), (2, .int w24.1), (3, .int v26)] [] w24.2 post
          refine r_iload_n 3 dX12_readSecond_63 rfl rfl ?_
          refine r_bipush (v := (-4)) dX12_readSecond_64 rfl ?_
          refine r_icmp_eq 84 dX12_readSecond_66 (by decide) (fun c29 => ?_) (fun c29 => ?_)
          · rw [if_pos c29] at h
            obtain rfl := Option.some.inj h
            exact hX v26 rfl
          · rw [if_neg c29] at h
            refine r_iload_n 3 dX12_readSecond_69 rfl rfl ?_
            refine r_iload_n 1 dX12_readSecond_70 rfl rfl ?_
            refine r_icmp_eq 84 dX12_readSecond_71 (by decide) (fun c28 => ?_) (fun c28 => ?_)
            · rw [if_pos c28] at h
              obtain rfl := Option.some.inj h
              exact hX v26 rfl
            · rw [if_neg c28] at h
              refine r_aload_n 0 dX12_readSecond_74 rfl rfl ?_
              refine r_getC (k := 0) (j := 55) (r := 38) sM_0 rfl fl_X12_130 dX12_readSecond_75 ?_
              refine r_iload_n 3 dX12_readSecond_78 rfl rfl ?_
              obtain ⟨x27, hx27, h⟩ := b1_some h
              refine r_iaload sM_38 hx27 dX12_readSecond_79 ?_
              refine r_istore_n (i := 3) [(0, .ref (ad_ G 0)), (1, .int q21.1), (2, .int w24.1), (3, .int x27)] [1, 2, 3, 0] dX12_readSecond_80 rfl (by decide) rfl ?_
              refine r_goto 63 dX12_readSecond_81 (by decide) ?_
              obtain rfl := Option.some.inj h
              exact hB x27 rfl
        obtain ⟨u30, hu30, h⟩ := b1_some h
        refine key u30 hu30 ?_
        show Rn G shM 5 yX12_readSecond cX12_readSecond 4 none 84 [(0, .ref (ad_ G 0)), (1, .int q21.1), (2, .int w24.1), (3, .int u30)] [] w24.2 post
        refine r_aload_n 0 dX12_readSecond_84 rfl rfl ?_
        refine r_iload_n 3 dX12_readSecond_85 rfl rfl ?_
        refine r_bipush (v := (-4)) dX12_readSecond_86 rfl ?_
        obtain ⟨w31, hw31, h⟩ := b1_some h
        have hJ : Rn G shM 5 yX12_readSecond cX12_readSecond 4 none 96 [(0, .ref (ad_ G 0)), (1, .int q21.1), (2, .int w24.1)] [.int w31, .ref (ad_ G 0)] w24.2 post := by
          refine r_iconst (v := 5) dX12_readSecond_96 rfl ?_
          obtain ⟨S32, hS32, h⟩ := b1_some h
          refine r_callVv (k := 0) (rest := []) (by omega) (mX12_wants hS32) sM_0 rfl rfl cb_X12_wants ml_X12_301 im_X12_wants se_X12_wants rfl rfl (Nat.le_of_ble_eq_true rfl) dX12_readSecond_97 ?_
          refine r_aload_n 0 dX12_readSecond_100 rfl rfl ?_
          refine r_getC (k := 0) (j := 55) (r := 38) sM_0 rfl fl_X12_130 dX12_readSecond_101 ?_
          refine r_iload_n 1 dX12_readSecond_104 rfl rfl ?_
          refine r_iload_n 2 dX12_readSecond_105 rfl rfl ?_
          obtain ⟨S33, hS33, h⟩ := b1_some h
          refine r_iastore sM_38 hS33 dX12_readSecond_106 ?_
          obtain rfl := Option.some.inj h
          exact r_return rfl dX12_readSecond_107 (hp)
        clear h
        replace h := hw31
        refine r_icmp_ne 95 dX12_readSecond_88 (by decide) (fun c34 => ?_) (fun c34 => ?_)
        · rw [if_neg c34] at h
          refine r_iconst (v := 0) dX12_readSecond_95 rfl ?_
          refine r_sub [(0, .ref (ad_ G 0)), (1, .int q21.1), (2, .int w24.1)] [0, 1, 2] rfl ?_
          obtain rfl := Option.some.inj h
          exact hJ
        · rw [if_pos c34] at h
          refine r_iconst (v := 1) dX12_readSecond_91 rfl ?_
          refine r_goto 96 dX12_readSecond_92 (by decide) ?_
          refine r_sub [(0, .ref (ad_ G 0)), (1, .int q21.1), (2, .int w24.1)] [0, 1, 2] rfl ?_
          obtain rfl := Option.some.inj h
          exact hJ
      · rw [if_neg c35] at h
        obtain rfl := Option.some.inj h
        exact r_return rfl dX12_readSecond_60 (hp)
    clear h
    replace h := hw24
    refine r_if_ne 51 dX12_readSecond_41 (by decide) (fun c37 => ?_) (fun c37 => ?_)
    · rw [if_neg c37] at h
      refine r_iconst (v := 0) dX12_readSecond_51 rfl ?_
      obtain rfl := Option.some.inj h
      exact hJ
    · rw [if_pos c37] at h
      refine r_aload_n 0 dX12_readSecond_44 rfl rfl ?_
      obtain ⟨q36, hq36, h⟩ := b1_some h
      refine r_callVi (k := 0) (rest := []) (by omega) (mX12_letter hq36) sM_0 rfl rfl cb_X12_letter ml_X12_337 im_X12_letter se_X12_letter rfl rfl (Nat.le_of_ble_eq_true rfl) dX12_readSecond_45 ?_
      refine r_goto 52 dX12_readSecond_48 (by decide) ?_
      obtain rfl := Option.some.inj h
      exact hJ
  clear h
  replace h := hw22
  refine r_if_ne 33 dX12_readSecond_9 (by decide) (fun c42 => ?_) (fun c42 => ?_)
  · rw [if_neg c42] at h
    obtain rfl := Option.some.inj h
    exact hJ
  · rw [if_pos c42] at h
    refine r_aload_n 0 dX12_readSecond_12 rfl rfl ?_
    refine r_aload_n 0 dX12_readSecond_13 rfl rfl ?_
    refine r_getC (k := 0) (j := 55) (r := 38) sM_0 rfl fl_X12_130 dX12_readSecond_14 ?_
    refine r_iload_n 1 dX12_readSecond_17 rfl rfl ?_
    obtain ⟨x38, hx38, h⟩ := b1_some h
    refine r_iaload sM_38 hx38 dX12_readSecond_18 ?_
    refine r_bipush (v := (-4)) dX12_readSecond_19 rfl ?_
    obtain ⟨w39, hw39, h⟩ := b1_some h
    have hJ : Rn G shM 5 yX12_readSecond cX12_readSecond 4 none 29 [(0, .ref (ad_ G 0)), (1, .int q21.1)] [.int w39, .ref (ad_ G 0)] q21.2 post := by
      refine r_iconst (v := 4) dX12_readSecond_29 rfl ?_
      obtain ⟨S40, hS40, h⟩ := b1_some h
      refine r_callVv (k := 0) (rest := []) (by omega) (mX12_wants hS40) sM_0 rfl rfl cb_X12_wants ml_X12_301 im_X12_wants se_X12_wants rfl rfl (Nat.le_of_ble_eq_true rfl) dX12_readSecond_30 ?_
      obtain rfl := Option.some.inj h
      exact hJ
    clear h
    replace h := hw39
    refine r_icmp_ne 28 dX12_readSecond_21 (by decide) (fun c41 => ?_) (fun c41 => ?_)
    · rw [if_neg c41] at h
      refine r_iconst (v := 0) dX12_readSecond_28 rfl ?_
      obtain rfl := Option.some.inj h
      exact hJ
    · rw [if_pos c41] at h
      refine r_iconst (v := 1) dX12_readSecond_24 rfl ?_
      refine r_goto 29 dX12_readSecond_25 (by decide) ?_
      obtain rfl := Option.some.inj h
      exact hJ
theorem mX12_readSecond {G : Gx} {S : St} {o : St}  (h : fX12_readSecond S = some o) : MR_ G shM 5 yX12_readSecond cX12_readSecond 4 none [.ref (ad_ G 0)] S (PV_ o) := MR_of cb_X12_readSecond (Nat.le_of_ble_eq_true rfl) [(0, .ref (ad_ G 0))] rfl (tX12_readSecond  h ⟨rfl, rfl⟩)
