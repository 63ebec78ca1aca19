set_option maxRecDepth 100000 in
set_option maxHeartbeats 4000000 in
theorem tX12_readLaw {G : Gx} {post : Option Value → St → Prop} {S : St} {o : St}  (h : fX12_readLaw S = some o) (hp : post none o) : Rn G shM 6 yX12_readLaw cX12_readLaw 3 none 0 [(0, .ref (ad_ G 0))] [] S post := by
  unfold fX12_readLaw at h
  refine r_aload_n 0 dX12_readLaw_0 rfl rfl ?_
  refine r_aload_n 0 dX12_readLaw_1 rfl rfl ?_
  refine r_getI (k := 0) (j := 39) sM_0 rfl fl_X12_288 dX12_readLaw_2 ?_
  refine r_iconst (v := 1) dX12_readLaw_5 rfl ?_
  obtain ⟨w21, hw21, h⟩ := b1_some h
  have hJ : Rn G shM 6 yX12_readLaw cX12_readLaw 3 none 14 [(0, .ref (ad_ G 0))] [.int w21, .ref (ad_ G 0)] S post := by
    refine r_iconst (v := 2) dX12_readLaw_14 rfl ?_
    obtain ⟨S22, hS22, h⟩ := b1_some h
    refine r_callVv (k := 0) (rest := []) (by omega) (mX12_wants hS22) sM_0 rfl rfl cb_X12_wants ml_X12_301 im_X12_wants se_X12_wants rfl rfl (Nat.le_of_ble_eq_true rfl) dX12_readLaw_15 ?_
    refine r_aload_n 0 dX12_readLaw_18 rfl rfl ?_
    refine r_getI (k := 0) (j := 41) sM_0 rfl fl_X12_270 dX12_readLaw_19 ?_
    refine r_if_le 26 dX12_readLaw_22 (by decide) (fun c116 => ?_) (fun c116 => ?_)
    · rw [if_pos c116] at h
      refine r_aload_n 0 dX12_readLaw_26 rfl rfl ?_
      refine r_getI (k := 0) (j := 40) sM_0 rfl fl_X12_298 dX12_readLaw_27 ?_
      refine r_istore_n (i := 1) [(0, .ref (ad_ G 0)), (1, .int (gI_ S22 0 40))] [1, 0] dX12_readLaw_30 rfl (by decide) rfl ?_
      refine r_iload_n 1 dX12_readLaw_31 rfl rfl ?_
      refine r_iconst (v := 2) dX12_readLaw_32 rfl ?_
      obtain ⟨w23, hw23, h⟩ := b1_some h
      have hJ : Rn G shM 6 yX12_readLaw cX12_readLaw 3 none 55 [(0, .ref (ad_ G 0)), (1, .int (gI_ S22 0 40))] [] w23 post := by
        refine r_aload_n 0 dX12_readLaw_55 rfl rfl ?_
        obtain ⟨S24, hS24, h⟩ := b1_some h
        refine r_callVv (k := 0) (rest := []) (by omega) (mX12_goesOn hS24) sM_0 rfl rfl cb_X12_goesOn ml_X12_334 im_X12_goesOn se_X12_goesOn rfl rfl (Nat.le_of_ble_eq_true rfl) dX12_readLaw_56 ?_
        refine r_aload_n 0 dX12_readLaw_59 rfl rfl ?_
        refine r_getI (k := 0) (j := 41) sM_0 rfl fl_X12_270 dX12_readLaw_60 ?_
        obtain ⟨w25, hw25, h⟩ := b1_some h
        have hJ : Rn G shM 6 yX12_readLaw cX12_readLaw 3 none 154 [(0, .ref (ad_ G 0))] [] w25 post := by
          refine r_aload_n 0 dX12_readLaw_154 rfl rfl ?_
          obtain ⟨S26, hS26, h⟩ := b1_some h
          refine r_callVv (k := 0) (rest := []) (by omega) (mX12_goesOn hS26) sM_0 rfl rfl cb_X12_goesOn ml_X12_334 im_X12_goesOn se_X12_goesOn rfl rfl (Nat.le_of_ble_eq_true rfl) dX12_readLaw_155 ?_
          refine r_aload_n 0 dX12_readLaw_158 rfl rfl ?_
          refine r_getI (k := 0) (j := 41) sM_0 rfl fl_X12_270 dX12_readLaw_159 ?_
          obtain ⟨w27, hw27, h⟩ := b1_some h
          have hJ : Rn G shM 6 yX12_readLaw cX12_readLaw 3 none 183 [(0, .ref (ad_ G 0))] [] w27 post := by
            refine r_aload_n 0 dX12_readLaw_183 rfl rfl ?_
            obtain ⟨S28, hS28, h⟩ := b1_some h
            refine r_callVv (k := 0) (rest := []) (by omega) (mX12_goesOn hS28) sM_0 rfl rfl cb_X12_goesOn ml_X12_334 im_X12_goesOn se_X12_goesOn rfl rfl (Nat.le_of_ble_eq_true rfl) dX12_readLaw_184 ?_
            refine r_aload_n 0 dX12_readLaw_187 rfl rfl ?_
            refine r_dup dX12_readLaw_188 rfl ?_
            refine r_getI (k := 0) (j := 56) sM_0 rfl fl_X12_319 dX12_readLaw_189 ?_
            refine r_iconst (v := 1) dX12_readLaw_192 rfl ?_
            refine r_iadd dX12_readLaw_193 ?_
            obtain ⟨S29, hS29, h⟩ := b1_some h
            refine r_setI (k := 0) (j := 56) sM_0 rfl pf_X12_319 hS29 dX12_readLaw_194 ?_
            obtain rfl := Option.some.inj h
            exact r_return rfl dX12_readLaw_197 (hp)
          clear h
          replace h := hw27
          refine r_if_ne 183 dX12_readLaw_162 (by decide) (fun c33 => ?_) (fun c33 => ?_)
          · rw [if_neg c33] at h
            obtain rfl := Option.some.inj h
            exact hJ
          · rw [if_pos c33] at h
            refine r_aload_n 0 dX12_readLaw_165 rfl rfl ?_
            refine r_aload_n 0 dX12_readLaw_166 rfl rfl ?_
            refine r_getI (k := 0) (j := 39) sM_0 rfl fl_X12_288 dX12_readLaw_167 ?_
            refine r_iconst (v := 4) dX12_readLaw_170 rfl ?_
            obtain ⟨w30, hw30, h⟩ := b1_some h
            have hJ : Rn G shM 6 yX12_readLaw cX12_readLaw 3 none 179 [(0, .ref (ad_ G 0))] [.int w30, .ref (ad_ G 0)] S26 post := by
              refine r_iconst (v := 2) dX12_readLaw_179 rfl ?_
              obtain ⟨S31, hS31, h⟩ := b1_some h
              refine r_callVv (k := 0) (rest := []) (by omega) (mX12_wants hS31) sM_0 rfl rfl cb_X12_wants ml_X12_301 im_X12_wants se_X12_wants rfl rfl (Nat.le_of_ble_eq_true rfl) dX12_readLaw_180 ?_
              obtain rfl := Option.some.inj h
              exact hJ
            clear h
            replace h := hw30
            refine r_icmp_ne 178 dX12_readLaw_171 (by decide) (fun c32 => ?_) (fun c32 => ?_)
            · rw [if_neg c32] at h
              refine r_iconst (v := 0) dX12_readLaw_178 rfl ?_
              obtain rfl := Option.some.inj h
              exact hJ
            · rw [if_pos c32] at h
              refine r_iconst (v := 1) dX12_readLaw_174 rfl ?_
              refine r_goto 179 dX12_readLaw_175 (by decide) ?_
              obtain rfl := Option.some.inj h
              exact hJ
        clear h
        replace h := hw25
        refine r_if_ne 87 dX12_readLaw_63 (by decide) (fun c111 => ?_) (fun c111 => ?_)
        · rw [if_neg c111] at h
          refine r_aload_n 0 dX12_readLaw_87 rfl rfl ?_
          refine r_getI (k := 0) (j := 41) sM_0 rfl fl_X12_270 dX12_readLaw_88 ?_
          refine r_if_ne 105 dX12_readLaw_91 (by decide) (fun c70 => ?_) (fun c70 => ?_)
          · rw [if_neg c70] at h
            refine r_aload_n 0 dX12_readLaw_105 rfl rfl ?_
            refine r_getI (k := 0) (j := 41) sM_0 rfl fl_X12_270 dX12_readLaw_106 ?_
            refine r_if_ne 124 dX12_readLaw_109 (by decide) (fun c50 => ?_) (fun c50 => ?_)
            · rw [if_neg c50] at h
              refine r_aload_n 0 dX12_readLaw_124 rfl rfl ?_
              refine r_getI (k := 0) (j := 41) sM_0 rfl fl_X12_270 dX12_readLaw_125 ?_
              refine r_if_ne 143 dX12_readLaw_128 (by decide) (fun c40 => ?_) (fun c40 => ?_)
              · rw [if_neg c40] at h
                refine r_aload_n 0 dX12_readLaw_143 rfl rfl ?_
                refine r_getI (k := 0) (j := 41) sM_0 rfl fl_X12_270 dX12_readLaw_144 ?_
                refine r_if_ne 154 dX12_readLaw_147 (by decide) (fun c35 => ?_) (fun c35 => ?_)
                · rw [if_neg c35] at h
                  refine r_sub [(0, .ref (ad_ G 0))] [0] rfl ?_
                  obtain rfl := Option.some.inj h
                  exact hJ
                · rw [if_pos c35] at h
                  refine r_aload_n 0 dX12_readLaw_150 rfl rfl ?_
                  obtain ⟨S34, hS34, h⟩ := b1_some h
                  refine r_callVv (k := 0) (rest := []) (by omega) (mX12_readSecond hS34) sM_0 rfl rfl cb_X12_readSecond ml_X12_349 im_X12_readSecond se_X12_readSecond rfl rfl (Nat.le_of_ble_eq_true rfl) dX12_readLaw_151 ?_
                  refine r_sub [(0, .ref (ad_ G 0))] [0] rfl ?_
                  obtain rfl := Option.some.inj h
                  exact hJ
              · rw [if_pos c40] at h
                refine r_iload_n 1 dX12_readLaw_131 rfl rfl ?_
                refine r_iconst (v := 3) dX12_readLaw_132 rfl ?_
                refine r_icmp_ne 143 dX12_readLaw_133 (by decide) (fun c39 => ?_) (fun c39 => ?_)
                · rw [if_neg c39] at h
                  refine r_aload_n 0 dX12_readLaw_143 rfl rfl ?_
                  refine r_getI (k := 0) (j := 41) sM_0 rfl fl_X12_270 dX12_readLaw_144 ?_
                  refine r_if_ne 154 dX12_readLaw_147 (by decide) (fun c37 => ?_) (fun c37 => ?_)
                  · rw [if_neg c37] at h
                    refine r_sub [(0, .ref (ad_ G 0))] [0] rfl ?_
                    obtain rfl := Option.some.inj h
                    exact hJ
                  · rw [if_pos c37] at h
                    refine r_aload_n 0 dX12_readLaw_150 rfl rfl ?_
                    obtain ⟨S36, hS36, h⟩ := b1_some h
                    refine r_callVv (k := 0) (rest := []) (by omega) (mX12_readSecond hS36) sM_0 rfl rfl cb_X12_readSecond ml_X12_349 im_X12_readSecond se_X12_readSecond rfl rfl (Nat.le_of_ble_eq_true rfl) dX12_readLaw_151 ?_
                    refine r_sub [(0, .ref (ad_ G 0))] [0] rfl ?_
                    obtain rfl := Option.some.inj h
                    exact hJ
                · rw [if_pos c39] at h
                  refine r_aload_n 0 dX12_readLaw_136 rfl rfl ?_
                  obtain ⟨S38, hS38, h⟩ := b1_some h
                  refine r_callVv (k := 0) (rest := []) (by omega) (mX12_readLeast hS38) sM_0 rfl rfl cb_X12_readLeast ml_X12_346 im_X12_readLeast se_X12_readLeast rfl rfl (Nat.le_of_ble_eq_true rfl) dX12_readLaw_137 ?_
                  refine r_goto 154 dX12_readLaw_140 (by decide) ?_
                  refine r_sub [(0, .ref (ad_ G 0))] [0] rfl ?_
                  obtain rfl := Option.some.inj h
                  exact hJ
            · rw [if_pos c50] at h
              refine r_iload_n 1 dX12_readLaw_112 rfl rfl ?_
              refine r_iconst (v := 1) dX12_readLaw_113 rfl ?_
              refine r_icmp_ne 124 dX12_readLaw_114 (by decide) (fun c49 => ?_) (fun c49 => ?_)
              · rw [if_neg c49] at h
                refine r_aload_n 0 dX12_readLaw_124 rfl rfl ?_
                refine r_getI (k := 0) (j := 41) sM_0 rfl fl_X12_270 dX12_readLaw_125 ?_
                refine r_if_ne 143 dX12_readLaw_128 (by decide) (fun c47 => ?_) (fun c47 => ?_)
                · rw [if_neg c47] at h
                  refine r_aload_n 0 dX12_readLaw_143 rfl rfl ?_
                  refine r_getI (k := 0) (j := 41) sM_0 rfl fl_X12_270 dX12_readLaw_144 ?_
                  refine r_if_ne 154 dX12_readLaw_147 (by decide) (fun c42 => ?_) (fun c42 => ?_)
                  · rw [if_neg c42] at h
                    refine r_sub [(0, .ref (ad_ G 0))] [0] rfl ?_
                    obtain rfl := Option.some.inj h
                    exact hJ
                  · rw [if_pos c42] at h
                    refine r_aload_n 0 dX12_readLaw_150 rfl rfl ?_
                    obtain ⟨S41, hS41, h⟩ := b1_some h
                    refine r_callVv (k := 0) (rest := []) (by omega) (mX12_readSecond hS41) sM_0 rfl rfl cb_X12_readSecond ml_X12_349 im_X12_readSecond se_X12_readSecond rfl rfl (Nat.le_of_ble_eq_true rfl) dX12_readLaw_151 ?_
                    refine r_sub [(0, .ref (ad_ G 0))] [0] rfl ?_
                    obtain rfl := Option.some.inj h
                    exact hJ
                · rw [if_pos c47] at h
                  refine r_iload_n 1 dX12_readLaw_131 rfl rfl ?_
                  refine r_iconst (v := 3) dX12_readLaw_132 rfl ?_
                  refine r_icmp_ne 143 dX12_readLaw_133 (by decide) (fun c46 => ?_) (fun c46 => ?_)
                  · rw [if_neg c46] at h
                    refine r_aload_n 0 dX12_readLaw_143 rfl rfl ?_
                    refine r_getI (k := 0) (j := 41) sM_0 rfl fl_X12_270 dX12_readLaw_144 ?_
                    refine r_if_ne 154 dX12_readLaw_147 (by decide) (fun c44 => ?_) (fun c44 => ?_)
                    · rw [if_neg c44] at h
                      refine r_sub [(0, .ref (ad_ G 0))] [0] rfl ?_
                      obtain rfl := Option.some.inj h
                      exact hJ
                    · rw [if_pos c44] at h
                      refine r_aload_n 0 dX12_readLaw_150 rfl rfl ?_
                      obtain ⟨S43, hS43, h⟩ := b1_some h
                      refine r_callVv (k := 0) (rest := []) (by omega) (mX12_readSecond hS43) sM_0 rfl rfl cb_X12_readSecond ml_X12_349 im_X12_readSecond se_X12_readSecond rfl rfl (Nat.le_of_ble_eq_true rfl) dX12_readLaw_151 ?_
                      refine r_sub [(0, .ref (ad_ G 0))] [0] rfl ?_
                      obtain rfl := Option.some.inj h
                      exact hJ
                  · rw [if_pos c46] at h
                    refine r_aload_n 0 dX12_readLaw_136 rfl rfl ?_
                    obtain ⟨S45, hS45, h⟩ := b1_some h
                    refine r_callVv (k := 0) (rest := []) (by omega) (mX12_readLeast hS45) sM_0 rfl rfl cb_X12_readLeast ml_X12_346 im_X12_readLeast se_X12_readLeast rfl rfl (Nat.le_of_ble_eq_true rfl) dX12_readLaw_137 ?_
                    refine r_goto 154 dX12_readLaw_140 (by decide) ?_
                    refine r_sub [(0, .ref (ad_ G 0))] [0] rfl ?_
                    obtain rfl := Option.some.inj h
                    exact hJ
              · rw [if_pos c49] at h
                refine r_aload_n 0 dX12_readLaw_117 rfl rfl ?_
                obtain ⟨S48, hS48, h⟩ := b1_some h
                refine r_callVv (k := 0) (rest := []) (by omega) (mX12_readBar hS48) sM_0 rfl rfl cb_X12_readBar ml_X12_343 im_X12_readBar se_X12_readBar rfl rfl (Nat.le_of_ble_eq_true rfl) dX12_readLaw_118 ?_
                refine r_goto 154 dX12_readLaw_121 (by decide) ?_
                refine r_sub [(0, .ref (ad_ G 0))] [0] rfl ?_
                obtain rfl := Option.some.inj h
                exact hJ
          · rw [if_pos c70] at h
            refine r_iload_n 1 dX12_readLaw_94 rfl rfl ?_
            refine r_if_ne 105 dX12_readLaw_95 (by decide) (fun c69 => ?_) (fun c69 => ?_)
            · rw [if_neg c69] at h
              refine r_aload_n 0 dX12_readLaw_105 rfl rfl ?_
              refine r_getI (k := 0) (j := 41) sM_0 rfl fl_X12_270 dX12_readLaw_106 ?_
              refine r_if_ne 124 dX12_readLaw_109 (by decide) (fun c67 => ?_) (fun c67 => ?_)
              · rw [if_neg c67] at h
                refine r_aload_n 0 dX12_readLaw_124 rfl rfl ?_
                refine r_getI (k := 0) (j := 41) sM_0 rfl fl_X12_270 dX12_readLaw_125 ?_
                refine r_if_ne 143 dX12_readLaw_128 (by decide) (fun c57 => ?_) (fun c57 => ?_)
                · rw [if_neg c57] at h
                  refine r_aload_n 0 dX12_readLaw_143 rfl rfl ?_
                  refine r_getI (k := 0) (j := 41) sM_0 rfl fl_X12_270 dX12_readLaw_144 ?_
                  refine r_if_ne 154 dX12_readLaw_147 (by decide) (fun c52 => ?_) (fun c52 => ?_)
                  · rw [if_neg c52] at h
                    refine r_sub [(0, .ref (ad_ G 0))] [0] rfl ?_
                    obtain rfl := Option.some.inj h
                    exact hJ
                  · rw [if_pos c52] at h
                    refine r_aload_n 0 dX12_readLaw_150 rfl rfl ?_
                    obtain ⟨S51, hS51, h⟩ := b1_some h
                    refine r_callVv (k := 0) (rest := []) (by omega) (mX12_readSecond hS51) sM_0 rfl rfl cb_X12_readSecond ml_X12_349 im_X12_readSecond se_X12_readSecond rfl rfl (Nat.le_of_ble_eq_true rfl) dX12_readLaw_151 ?_
                    refine r_sub [(0, .ref (ad_ G 0))] [0] rfl ?_
                    obtain rfl := Option.some.inj h
                    exact hJ
                · rw [if_pos c57] at h
                  refine r_iload_n 1 dX12_readLaw_131 rfl rfl ?_
                  refine r_iconst (v := 3) dX12_readLaw_132 rfl ?_
                  refine r_icmp_ne 143 dX12_readLaw_133 (by decide) (fun c56 => ?_) (fun c56 => ?_)
                  · rw [if_neg c56] at h
                    refine r_aload_n 0 dX12_readLaw_143 rfl rfl ?_
                    refine r_getI (k := 0) (j := 41) sM_0 rfl fl_X12_270 dX12_readLaw_144 ?_
                    refine r_if_ne 154 dX12_readLaw_147 (by decide) (fun c54 => ?_) (fun c54 => ?_)
                    · rw [if_neg c54] at h
                      refine r_sub [(0, .ref (ad_ G 0))] [0] rfl ?_
                      obtain rfl := Option.some.inj h
                      exact hJ
                    · rw [if_pos c54] at h
                      refine r_aload_n 0 dX12_readLaw_150 rfl rfl ?_
                      obtain ⟨S53, hS53, h⟩ := b1_some h
                      refine r_callVv (k := 0) (rest := []) (by omega) (mX12_readSecond hS53) sM_0 rfl rfl cb_X12_readSecond ml_X12_349 im_X12_readSecond se_X12_readSecond rfl rfl (Nat.le_of_ble_eq_true rfl) dX12_readLaw_151 ?_
                      refine r_sub [(0, .ref (ad_ G 0))] [0] rfl ?_
                      obtain rfl := Option.some.inj h
                      exact hJ
                  · rw [if_pos c56] at h
                    refine r_aload_n 0 dX12_readLaw_136 rfl rfl ?_
                    obtain ⟨S55, hS55, h⟩ := b1_some h
                    refine r_callVv (k := 0) (rest := []) (by omega) (mX12_readLeast hS55) sM_0 rfl rfl cb_X12_readLeast ml_X12_346 im_X12_readLeast se_X12_readLeast rfl rfl (Nat.le_of_ble_eq_true rfl) dX12_readLaw_137 ?_
                    refine r_goto 154 dX12_readLaw_140 (by decide) ?_
                    refine r_sub [(0, .ref (ad_ G 0))] [0] rfl ?_
                    obtain rfl := Option.some.inj h
                    exact hJ
              · rw [if_pos c67] at h
                refine r_iload_n 1 dX12_readLaw_112 rfl rfl ?_
                refine r_iconst (v := 1) dX12_readLaw_113 rfl ?_
                refine r_icmp_ne 124 dX12_readLaw_114 (by decide) (fun c66 => ?_) (fun c66 => ?_)
                · rw [if_neg c66] at h
                  refine r_aload_n 0 dX12_readLaw_124 rfl rfl ?_
                  refine r_getI (k := 0) (j := 41) sM_0 rfl fl_X12_270 dX12_readLaw_125 ?_
                  refine r_if_ne 143 dX12_readLaw_128 (by decide) (fun c64 => ?_) (fun c64 => ?_)
                  · rw [if_neg c64] at h
                    refine r_aload_n 0 dX12_readLaw_143 rfl rfl ?_
                    refine r_getI (k := 0) (j := 41) sM_0 rfl fl_X12_270 dX12_readLaw_144 ?_
                    refine r_if_ne 154 dX12_readLaw_147 (by decide) (fun c59 => ?_) (fun c59 => ?_)
                    · rw [if_neg c59] at h
                      refine r_sub [(0, .ref (ad_ G 0))] [0] rfl ?_
                      obtain rfl := Option.some.inj h
                      exact hJ
                    · rw [if_pos c59] at h
                      refine r_aload_n 0 dX12_readLaw_150 rfl rfl ?_
                      obtain ⟨S58, hS58, h⟩ := b1_some h
                      refine r_callVv (k := 0) (rest := []) (by omega) (mX12_readSecond hS58) sM_0 rfl rfl cb_X12_readSecond ml_X12_349 im_X12_readSecond se_X12_readSecond rfl rfl (Nat.le_of_ble_eq_true rfl) dX12_readLaw_151 ?_
                      refine r_sub [(0, .ref (ad_ G 0))] [0] rfl ?_
                      obtain rfl := Option.some.inj h
                      exact hJ
                  · rw [if_pos c64] at h
                    refine r_iload_n 1 dX12_readLaw_131 rfl rfl ?_
                    refine r_iconst (v := 3) dX12_readLaw_132 rfl ?_
                    refine r_icmp_ne 143 dX12_readLaw_133 (by decide) (fun c63 => ?_) (fun c63 => ?_)
                    · rw [if_neg c63] at h
                      refine r_aload_n 0 dX12_readLaw_143 rfl rfl ?_
                      refine r_getI (k := 0) (j := 41) sM_0 rfl fl_X12_270 dX12_readLaw_144 ?_
                      refine r_if_ne 154 dX12_readLaw_147 (by decide) (fun c61 => ?_) (fun c61 => ?_)
                      · rw [if_neg c61] at h
                        refine r_sub [(0, .ref (ad_ G 0))] [0] rfl ?_
                        obtain rfl := Option.some.inj h
                        exact hJ
                      · rw [if_pos c61] at h
                        refine r_aload_n 0 dX12_readLaw_150 rfl rfl ?_
                        obtain ⟨S60, hS60, h⟩ := b1_some h
                        refine r_callVv (k := 0) (rest := []) (by omega) (mX12_readSecond hS60) sM_0 rfl rfl cb_X12_readSecond ml_X12_349 im_X12_readSecond se_X12_readSecond rfl rfl (Nat.le_of_ble_eq_true rfl) dX12_readLaw_151 ?_
                        refine r_sub [(0, .ref (ad_ G 0))] [0] rfl ?_
                        obtain rfl := Option.some.inj h
                        exact hJ
                    · rw [if_pos c63] at h
                      refine r_aload_n 0 dX12_readLaw_136 rfl rfl ?_
                      obtain ⟨S62, hS62, h⟩ := b1_some h
                      refine r_callVv (k := 0) (rest := []) (by omega) (mX12_readLeast hS62) sM_0 rfl rfl cb_X12_readLeast ml_X12_346 im_X12_readLeast se_X12_readLeast rfl rfl (Nat.le_of_ble_eq_true rfl) dX12_readLaw_137 ?_
                      refine r_goto 154 dX12_readLaw_140 (by decide) ?_
                      refine r_sub [(0, .ref (ad_ G 0))] [0] rfl ?_
                      obtain rfl := Option.some.inj h
                      exact hJ
                · rw [if_pos c66] at h
                  refine r_aload_n 0 dX12_readLaw_117 rfl rfl ?_
                  obtain ⟨S65, hS65, h⟩ := b1_some h
                  refine r_callVv (k := 0) (rest := []) (by omega) (mX12_readBar hS65) sM_0 rfl rfl cb_X12_readBar ml_X12_343 im_X12_readBar se_X12_readBar rfl rfl (Nat.le_of_ble_eq_true rfl) dX12_readLaw_118 ?_
                  refine r_goto 154 dX12_readLaw_121 (by decide) ?_
                  refine r_sub [(0, .ref (ad_ G 0))] [0] rfl ?_
                  obtain rfl := Option.some.inj h
                  exact hJ
            · rw [if_pos c69] at h
              refine r_aload_n 0 dX12_readLaw_98 rfl rfl ?_
              obtain ⟨S68, hS68, h⟩ := b1_some h
              refine r_callVv (k := 0) (rest := []) (by omega) (mX12_readStamp hS68) sM_0 rfl rfl cb_X12_readStamp ml_X12_340 im_X12_readStamp se_X12_readStamp rfl rfl (Nat.le_of_ble_eq_true rfl) dX12_readLaw_99 ?_
              refine r_goto 154 dX12_readLaw_102 (by decide) ?_
              refine r_sub [(0, .ref (ad_ G 0))] [0] rfl ?_
              obtain rfl := Option.some.inj h
              exact hJ
        · rw [if_pos c111] at h
          refine r_iload_n 1 dX12_readLaw_66 rfl rfl ?_
          refine r_iconst (v := 2) dX12_readLaw_67 rfl ?_
          refine r_icmp_ne 87 dX12_readLaw_68 (by decide) (fun c110 => ?_) (fun c110 => ?_)
          · rw [if_neg c110] at h
            refine r_aload_n 0 dX12_readLaw_87 rfl rfl ?_
            refine r_getI (k := 0) (j := 41) sM_0 rfl fl_X12_270 dX12_readLaw_88 ?_
            refine r_if_ne 105 dX12_readLaw_91 (by decide) (fun c107 => ?_) (fun c107 => ?_)
            · rw [if_neg c107] at h
              refine r_aload_n 0 dX12_readLaw_105 rfl rfl ?_
              refine r_getI (k := 0) (j := 41) sM_0 rfl fl_X12_270 dX12_readLaw_106 ?_
              refine r_if_ne 124 dX12_readLaw_109 (by decide) (fun c87 => ?_) (fun c87 => ?_)
              · rw [if_neg c87] at h
                refine r_aload_n 0 dX12_readLaw_124 rfl rfl ?_
                refine r_getI (k := 0) (j := 41) sM_0 rfl fl_X12_270 dX12_readLaw_125 ?_
                refine r_if_ne 143 dX12_readLaw_128 (by decide) (fun c77 => ?_) (fun c77 => ?_)
                · rw [if_neg c77] at h
                  refine r_aload_n 0 dX12_readLaw_143 rfl rfl ?_
                  refine r_getI (k := 0) (j := 41) sM_0 rfl fl_X12_270 dX12_readLaw_144 ?_
                  refine r_if_ne 154 dX12_readLaw_147 (by decide) (fun c72 => ?_) (fun c72 => ?_)
                  · rw [if_neg c72] at h
                    refine r_sub [(0, .ref (ad_ G 0))] [0] rfl ?_
                    obtain rfl := Option.some.inj h
                    exact hJ
                  · rw [if_pos c72] at h
                    refine r_aload_n 0 dX12_readLaw_150 rfl rfl ?_
                    obtain ⟨S71, hS71, h⟩ := b1_some h
                    refine r_callVv (k := 0) (rest := []) (by omega) (mX12_readSecond hS71) sM_0 rfl rfl cb_X12_readSecond ml_X12_349 im_X12_readSecond se_X12_readSecond rfl rfl (Nat.le_of_ble_eq_true rfl) dX12_readLaw_151 ?_
                    refine r_sub [(0, .ref (ad_ G 0))] [0] rfl ?_
                    obtain rfl := Option.some.inj h
                    exact hJ
                · rw [if_pos c77] at h
                  refine r_iload_n 1 dX12_readLaw_131 rfl rfl ?_
                  refine r_iconst (v := 3) dX12_readLaw_132 rfl ?_
                  refine r_icmp_ne 143 dX12_readLaw_133 (by decide) (fun c76 => ?_) (fun c76 => ?_)
                  · rw [if_neg c76] at h
                    refine r_aload_n 0 dX12_readLaw_143 rfl rfl ?_
                    refine r_getI (k := 0) (j := 41) sM_0 rfl fl_X12_270 dX12_readLaw_144 ?_
                    refine r_if_ne 154 dX12_readLaw_147 (by decide) (fun c74 => ?_) (fun c74 => ?_)
                    · rw [if_neg c74] at h
                      refine r_sub [(0, .ref (ad_ G 0))] [0] rfl ?_
                      obtain rfl := Option.some.inj h
                      exact hJ
                    · rw [if_pos c74] at h
                      refine r_aload_n 0 dX12_readLaw_150 rfl rfl ?_
                      obtain ⟨S73, hS73, h⟩ := b1_some h
                      refine r_callVv (k := 0) (rest := []) (by omega) (mX12_readSecond hS73) sM_0 rfl rfl cb_X12_readSecond ml_X12_349 im_X12_readSecond se_X12_readSecond rfl rfl (Nat.le_of_ble_eq_true rfl) dX12_readLaw_151 ?_
                      refine r_sub [(0, .ref (ad_ G 0))] [0] rfl ?_
                      obtain rfl := Option.some.inj h
                      exact hJ
                  · rw [if_pos c76] at h
                    refine r_aload_n 0 dX12_readLaw_136 rfl rfl ?_
                    obtain ⟨S75, hS75, h⟩ := b1_some h
                    refine r_callVv (k := 0) (rest := []) (by omega) (mX12_readLeast hS75) sM_0 rfl rfl cb_X12_readLeast ml_X12_346 im_X12_readLeast se_X12_readLeast rfl rfl (Nat.le_of_ble_eq_true rfl) dX12_readLaw_137 ?_
                    refine r_goto 154 dX12_readLaw_140 (by decide) ?_
                    refine r_sub [(0, .ref (ad_ G 0))] [0] rfl ?_
                    obtain rfl := Option.some.inj h
                    exact hJ
              · rw [if_pos c87] at h
                refine r_iload_n 1 dX12_readLaw_112 rfl rfl ?_
                refine r_iconst (v := 1) dX12_readLaw_113 rfl ?_
                refine r_icmp_ne 124 dX12_readLaw_114 (by decide) (fun c86 => ?_) (fun c86 => ?_)
                · rw [if_neg c86] at h
                  refine r_aload_n 0 dX12_readLaw_124 rfl rfl ?_
                  refine r_getI (k := 0) (j := 41) sM_0 rfl fl_X12_270 dX12_readLaw_125 ?_
                  refine r_if_ne 143 dX12_readLaw_128 (by decide) (fun c84 => ?_) (fun c84 => ?_)
                  · rw [if_neg c84] at h
                    refine r_aload_n 0 dX12_readLaw_143 rfl rfl ?_
                    refine r_getI (k := 0) (j := 41) sM_0 rfl fl_X12_270 dX12_readLaw_144 ?_
                    refine r_if_ne 154 dX12_readLaw_147 (by decide) (fun c79 => ?_) (fun c79 => ?_)
                    · rw [if_neg c79] at h
                      refine r_sub [(0, .ref (ad_ G 0))] [0] rfl ?_
                      obtain rfl := Option.some.inj h
                      exact hJ
                    · rw [if_pos c79] at h
                      refine r_aload_n 0 dX12_readLaw_150 rfl rfl ?_
                      obtain ⟨S78, hS78, h⟩ := b1_some h
                      refine r_callVv (k := 0) (rest := []) (by omega) (mX12_readSecond hS78) sM_0 rfl rfl cb_X12_readSecond ml_X12_349 im_X12_readSecond se_X12_readSecond rfl rfl (Nat.le_of_ble_eq_true rfl) dX12_readLaw_151 ?_
                      refine r_sub [(0, .ref (ad_ G 0))] [0] rfl ?_
                      obtain rfl := Option.some.inj h
                      exact hJ
                  · rw [if_pos c84] at h
                    refine r_iload_n 1 dX12_readLaw_131 rfl rfl ?_
                    refine r_iconst (v := 3) dX12_readLaw_132 rfl ?_
                    refine r_icmp_ne 143 dX12_readLaw_133 (by decide) (fun c83 => ?_) (fun c83 => ?_)
                    · rw [if_neg c83] at h
                      refine r_aload_n 0 dX12_readLaw_143 rfl rfl ?_
                      refine r_getI (k := 0) (j := 41) sM_0 rfl fl_X12_270 dX12_readLaw_144 ?_
                      refine r_if_ne 154 dX12_readLaw_147 (by decide) (fun c81 => ?_) (fun c81 => ?_)
                      · rw [if_neg c81] at h
                        refine r_sub [(0, .ref (ad_ G 0))] [0] rfl ?_
                        obtain rfl := Option.some.inj h
                        exact hJ
                      · rw [if_pos c81] at h
                        refine r_aload_n 0 dX12_readLaw_150 rfl rfl ?_
                        obtain ⟨S80, hS80, h⟩ := b1_some h
                        refine r_callVv (k := 0) (rest := []) (by omega) (mX12_readSecond hS80) sM_0 rfl rfl cb_X12_readSecond ml_X12_349 im_X12_readSecond se_X12_readSecond rfl rfl (Nat.le_of_ble_eq_true rfl) dX12_readLaw_151 ?_
                        refine r_sub [(0, .ref (ad_ G 0))] [0] rfl ?_
                        obtain rfl := Option.some.inj h
                        exact hJ
                    · rw [if_pos c83] at h
                      refine r_aload_n 0 dX12_readLaw_136 rfl rfl ?_
                      obtain ⟨S82, hS82, h⟩ := b1_some h
                      refine r_callVv (k := 0) (rest := []) (by omega) (mX12_readLeast hS82) sM_0 rfl rfl cb_X12_readLeast ml_X12_346 im_X12_readLeast se_X12_readLeast rfl rfl (Nat.le_of_ble_eq_true rfl) dX12_readLaw_137 ?_
                      refine r_goto 154 dX12_readLaw_140 (by decide) ?_
                      refine r_sub [(0, .ref (ad_ G 0))] [0] rfl ?_
                      obtain rfl := Option.some.inj h
                      exact hJ
                · rw [if_pos c86] at h
                  refine r_aload_n 0 dX12_readLaw_117 rfl rfl ?_
                  obtain ⟨S85, hS85, h⟩ := b1_some h
                  refine r_callVv (k := 0) (rest := []) (by omega) (mX12_readBar hS85) sM_0 rfl rfl cb_X12_readBar ml_X12_343 im_X12_readBar se_X12_readBar rfl rfl (Nat.le_of_ble_eq_true rfl) dX12_readLaw_118 ?_
                  refine r_goto 154 dX12_readLaw_121 (by decide) ?_
                  refine r_sub [(0, .ref (ad_ G 0))] [0] rfl ?_
                  obtain rfl := Option.some.inj h
                  exact hJ
            · rw [if_pos c107] at h
              refine r_iload_n 1 dX12_readLaw_94 rfl rfl ?_
              refine r_if_ne 105 dX12_readLaw_95 (by decide) (fun c106 => ?_) (fun c106 => ?_)
              · rw [if_neg c106] at h
                refine r_aload_n 0 dX12_readLaw_105 rfl rfl ?_
                refine r_getI (k := 0) (j := 41) sM_0 rfl fl_X12_270 dX12_readLaw_106 ?_
                refine r_if_ne 124 dX12_readLaw_109 (by decide) (fun c104 => ?_) (fun c104 => ?_)
                · rw [if_neg c104] at h
                  refine r_aload_n 0 dX12_readLaw_124 rfl rfl ?_
                  refine r_getI (k := 0) (j := 41) sM_0 rfl fl_X12_270 dX12_readLaw_125 ?_
                  refine r_if_ne 143 dX12_readLaw_128 (by decide) (fun c94 => ?_) (fun c94 => ?_)
                  · rw [if_neg c94] at h
                    refine r_aload_n 0 dX12_readLaw_143 rfl rfl ?_
                    refine r_getI (k := 0) (j := 41) sM_0 rfl fl_X12_270 dX12_readLaw_144 ?_
                    refine r_if_ne 154 dX12_readLaw_147 (by decide) (fun c89 => ?_) (fun c89 => ?_)
                    · rw [if_neg c89] at h
                      refine r_sub [(0, .ref (ad_ G 0))] [0] rfl ?_
                      obtain rfl := Option.some.inj h
                      exact hJ
                    · rw [if_pos c89] at h
                      refine r_aload_n 0 dX12_readLaw_150 rfl rfl ?_
                      obtain ⟨S88, hS88, h⟩ := b1_some h
                      refine r_callVv (k := 0) (rest := []) (by omega) (mX12_readSecond hS88) sM_0 rfl rfl cb_X12_readSecond ml_X12_349 im_X12_readSecond se_X12_readSecond rfl rfl (Nat.le_of_ble_eq_true rfl) dX12_readLaw_151 ?_
                      refine r_sub [(0, .ref (ad_ G 0))] [0] rfl ?_
                      obtain rfl := Option.some.inj h
                      exact hJ
                  · rw [if_pos c94] at h
                    refine r_iload_n 1 dX12_readLaw_131 rfl rfl ?_
                    refine r_iconst (v := 3) dX12_readLaw_132 rfl ?_
                    refine r_icmp_ne 143 dX12_readLaw_133 (by decide) (fun c93 => ?_) (fun c93 => ?_)
                    · rw [if_neg c93] at h
                      refine r_aload_n 0 dX12_readLaw_143 rfl rfl ?_
                      refine r_getI (k := 0) (j := 41) sM_0 rfl fl_X12_270 dX12_readLaw_144 ?_
                      refine r_if_ne 154 dX12_readLaw_147 (by decide) (fun c91 => ?_) (fun c91 => ?_)
                      · rw [if_neg c91] at h
                        refine r_sub [(0, .ref (ad_ G 0))] [0] rfl ?_
                        obtain rfl := Option.some.inj h
                        exact hJ
                      · rw [if_pos c91] at h
                        refine r_aload_n 0 dX12_readLaw_150 rfl rfl ?_
                        obtain ⟨S90, hS90, h⟩ := b1_some h
                        refine r_callVv (k := 0) (rest := []) (by omega) (mX12_readSecond hS90) sM_0 rfl rfl cb_X12_readSecond ml_X12_349 im_X12_readSecond se_X12_readSecond rfl rfl (Nat.le_of_ble_eq_true rfl) dX12_readLaw_151 ?_
                        refine r_sub [(0, .ref (ad_ G 0))] [0] rfl ?_
                        obtain rfl := Option.some.inj h
                        exact hJ
                    · rw [if_pos c93] at h
                      refine r_aload_n 0 dX12_readLaw_136 rfl rfl ?_
                      obtain ⟨S92, hS92, h⟩ := b1_some h
                      refine r_callVv (k := 0) (rest := []) (by omega) (mX12_readLeast hS92) sM_0 rfl rfl cb_X12_readLeast ml_X12_346 im_X12_readLeast se_X12_readLeast rfl rfl (Nat.le_of_ble_eq_true rfl) dX12_readLaw_137 ?_
                      refine r_goto 154 dX12_readLaw_140 (by decide) ?_
                      refine r_sub [(0, .ref (ad_ G 0))] [0] rfl ?_
                      obtain rfl := Option.some.inj h
                      exact hJ
                · rw [if_pos c104] at h
                  refine r_iload_n 1 dX12_readLaw_112 rfl rfl ?_
                  refine r_iconst (v := 1) dX12_readLaw_113 rfl ?_
                  refine r_icmp_ne 124 dX12_readLaw_114 (by decide) (fun c103 => ?_) (fun c103 => ?_)
                  · rw [if_neg c103] at h
                    refine r_aload_n 0 dX12_readLaw_124 rfl rfl ?_
                    refine r_getI (k := 0) (j := 41) sM_0 rfl fl_X12_270 dX12_readLaw_125 ?_
                    refine r_if_ne 143 dX12_readLaw_128 (by decide) (fun c101 => ?_) (fun c101 => ?_)
                    · rw [if_neg c101] at h
                      refine r_aload_n 0 dX12_readLaw_143 rfl rfl ?_
                      refine r_getI (k := 0) (j := 41) sM_0 rfl fl_X12_270 dX12_readLaw_144 ?_
                      refine r_if_ne 154 dX12_readLaw_147 (by decide) (fun c96 => ?_) (fun c96 => ?_)
                      · rw [if_neg c96] at h
                        refine r_sub [(0, .ref (ad_ G 0))] [0] rfl ?_
                        obtain rfl := Option.some.inj h
                        exact hJ
                      · rw [if_pos c96] at h
                        refine r_aload_n 0 dX12_readLaw_150 rfl rfl ?_
                        obtain ⟨S95, hS95, h⟩ := b1_some h
                        refine r_callVv (k := 0) (rest := []) (by omega) (mX12_readSecond hS95) sM_0 rfl rfl cb_X12_readSecond ml_X12_349 im_X12_readSecond se_X12_readSecond rfl rfl (Nat.le_of_ble_eq_true rfl) dX12_readLaw_151 ?_
                        refine r_sub [(0, .ref (ad_ G 0))] [0] rfl ?_
                        obtain rfl := Option.some.inj h
                        exact hJ
                    · rw [if_pos c101] at h
                      refine r_iload_n 1 dX12_readLaw_131 rfl rfl ?_
                      refine r_iconst (v := 3) dX12_readLaw_132 rfl ?_
                      refine r_icmp_ne 143 dX12_readLaw_133 (by decide) (fun c100 => ?_) (fun c100 => ?_)
                      · rw [if_neg c100] at h
                        refine r_aload_n 0 dX12_readLaw_143 rfl rfl ?_
                        refine r_getI (k := 0) (j := 41) sM_0 rfl fl_X12_270 dX12_readLaw_144 ?_
                        refine r_if_ne 154 dX12_readLaw_147 (by decide) (fun c98 => ?_) (fun c98 => ?_)
                        · rw [if_neg c98] at h
                          refine r_sub [(0, .ref (ad_ G 0))] [0] rfl ?_
                          obtain rfl := Option.some.inj h
                          exact hJ
                        · rw [if_pos c98] at h
                          refine r_aload_n 0 dX12_readLaw_150 rfl rfl ?_
                          obtain ⟨S97, hS97, h⟩ := b1_some h
                          refine r_callVv (k := 0) (rest := []) (by omega) (mX12_readSecond hS97) sM_0 rfl rfl cb_X12_readSecond ml_X12_349 im_X12_readSecond se_X12_readSecond rfl rfl (Nat.le_of_ble_eq_true rfl) dX12_readLaw_151 ?_
                          refine r_sub [(0, .ref (ad_ G 0))] [0] rfl ?_
                          obtain rfl := Option.some.inj h
                          exact hJ
                      · rw [if_pos c100] at h
                        refine r_aload_n 0 dX12_readLaw_136 rfl rfl ?_
                        obtain ⟨S99, hS99, h⟩ := b1_some h
                        refine r_callVv (k := 0) (rest := []) (by omega) (mX12_readLeast hS99) sM_0 rfl rfl cb_X12_readLeast ml_X12_346 im_X12_readLeast se_X12_readLeast rfl rfl (Nat.le_of_ble_eq_true rfl) dX12_readLaw_137 ?_
                        refine r_goto 154 dX12_readLaw_140 (by decide) ?_
                        refine r_sub [(0, .ref (ad_ G 0))] [0] rfl ?_
                        obtain rfl := Option.some.inj h
                        exact hJ
                  · rw [if_pos c103] at h
                    refine r_aload_n 0 dX12_readLaw_117 rfl rfl ?_
                    obtain ⟨S102, hS102, h⟩ := b1_some h
                    refine r_callVv (k := 0) (rest := []) (by omega) (mX12_readBar hS102) sM_0 rfl rfl cb_X12_readBar ml_X12_343 im_X12_readBar se_X12_readBar rfl rfl (Nat.le_of_ble_eq_true rfl) dX12_readLaw_118 ?_
                    refine r_goto 154 dX12_readLaw_121 (by decide) ?_
                    refine r_sub [(0, .ref (ad_ G 0))] [0] rfl ?_
                    obtain rfl := Option.some.inj h
                    exact hJ
              · rw [if_pos c106] at h
                refine r_aload_n 0 dX12_readLaw_98 rfl rfl ?_
                obtain ⟨S105, hS105, h⟩ := b1_some h
                refine r_callVv (k := 0) (rest := []) (by omega) (mX12_readStamp hS105) sM_0 rfl rfl cb_X12_readStamp ml_X12_340 im_X12_readStamp se_X12_readStamp rfl rfl (Nat.le_of_ble_eq_true rfl) dX12_readLaw_99 ?_
                refine r_goto 154 dX12_readLaw_102 (by decide) ?_
                refine r_sub [(0, .ref (ad_ G 0))] [0] rfl ?_
                obtain rfl := Option.some.inj h
                exact hJ
          · rw [if_pos c110] at h
            refine r_aload_n 0 dX12_readLaw_71 rfl rfl ?_
            refine r_iconst (v := 0) dX12_readLaw_72 rfl ?_
            refine r_bipush (v := 50) dX12_readLaw_73 rfl ?_
            obtain ⟨q108, hq108, h⟩ := b1_some h
            refine r_callVi (k := 0) (rest := []) (by omega) (mX12_number hq108) sM_0 rfl rfl cb_X12_number ml_X12_331 im_X12_number se_X12_number rfl rfl (Nat.le_of_ble_eq_true rfl) dX12_readLaw_75 ?_
            refine r_istore_n (i := 2) [(0, .ref (ad_ G 0)), (1, .int (gI_ S22 0 40)), (2, .int q108.1)] [1, 2, 0] dX12_readLaw_78 rfl (by decide) rfl ?_
            refine r_aload_n 0 dX12_readLaw_79 rfl rfl ?_
            refine r_iload_n 2 dX12_readLaw_80 rfl rfl ?_
            obtain ⟨S109, hS109, h⟩ := b1_some h
            refine r_setI (k := 0) (j := 53) sM_0 rfl pf_X12_316 hS109 dX12_readLaw_81 ?_
            refine r_goto 154 dX12_readLaw_84 (by decide) ?_
            refine r_sub [(0, .ref (ad_ G 0))] [0] rfl ?_
            obtain rfl := Option.some.inj h
            exact hJ
      clear h
      replace h := hw23
      refine r_icmp_ne 55 dX12_readLaw_33 (by decide) (fun c115 => ?_) (fun c115 => ?_)
      · rw [if_neg c115] at h
        obtain rfl := Option.some.inj h
        exact hJ
      · rw [if_pos c115] at h
        refine r_aload_n 0 dX12_readLaw_36 rfl rfl ?_
        refine r_aload_n 0 dX12_readLaw_37 rfl rfl ?_
        refine r_getI (k := 0) (j := 53) sM_0 rfl fl_X12_316 dX12_readLaw_38 ?_
        refine r_bipush (v := (-4)) dX12_readLaw_41 rfl ?_
        obtain ⟨w112, hw112, h⟩ := b1_some h
        have hJ : Rn G shM 6 yX12_readLaw cX12_readLaw 3 none 51 [(0, .ref (ad_ G 0)), (1, .int (gI_ S22 0 40))] [.int w112, .ref (ad_ G 0)] S22 post := by
          refine r_iconst (v := 4) dX12_readLaw_51 rfl ?_
          obtain ⟨S113, hS113, h⟩ := b1_some h
          refine r_callVv (k := 0) (rest := []) (by omega) (mX12_wants hS113) sM_0 rfl rfl cb_X12_wants ml_X12_301 im_X12_wants se_X12_wants rfl rfl (Nat.le_of_ble_eq_true rfl) dX12_readLaw_52 ?_
          obtain rfl := Option.some.inj h
          exact hJ
        clear h
        replace h := hw112
        refine r_icmp_ne 50 dX12_readLaw_43 (by decide) (fun c114 => ?_) (fun c114 => ?_)
        · rw [if_neg c114] at h
          refine r_iconst (v := 0) dX12_readLaw_50 rfl ?_
          obtain rfl := Option.some.inj h
          exact hJ
        · rw [if_pos c114] at h
          refine r_iconst (v := 1) dX12_readLaw_46 rfl ?_
          refine r_goto 51 dX12_readLaw_47 (by decide) ?_
          obtain rfl := Option.some.inj h
          exact hJ
    · rw [if_neg c116] at h
      obtain rfl := Option.some.inj h
      exact r_return rfl dX12_readLaw_25 (hp)
  clear h
  replace h := hw21
  refine r_icmp_ne 13 dX12_readLaw_6 (by decide) (fun c117 => ?_) (fun c117 => ?_)
  · rw [if_neg c117] at h
    refine r_iconst (v := 0) dX12_readLaw_13 rfl ?_
    obtain rfl := Option.some.inj h
    exact hJ
  · rw [if_pos c117] at h
    refine r_iconst (v := 1) dX12_readLaw_9 rfl ?_
    refine r_goto 14 dX12_readLaw_10 (by decide) ?_
    obtain rfl := Option.some.inj h
    exact hJ
theorem mX12_readLaw {G : Gx} {S : St} {o : St}  (h : fX12_readLaw S = some o) : MR_ G shM 6 yX12_readLaw cX12_readLaw 3 none [.ref (ad_ G 0)] S (PV_ o) := MR_of cb_X12_readLaw (Nat.le_of_ble_eq_true rfl) [(0, .ref (ad_ G 0))] rfl (tX12_readLaw  h ⟨rfl, rfl⟩)
set_option maxRecDepth 100000 in
set_option maxHeartbeats 4000000 in
theorem tX12_laws {G : Gx} {post : Option Value → St → Prop} {S : St} {o : (Int32 × St)}  (h : fX12_laws S = some o) (hp : post (some (.int o.1)) o.2) : Rn G shM 7 yX12_laws cX12_laws 2 (some .int) 0 [(0, .ref (ad_ G 0))] [] S post := by
  unfold fX12_laws at h
  refine r_aload_n 0 dX12_laws_0 rfl rfl ?_
  refine r_iconst (v := 0) dX12_laws_1 rfl ?_
  obtain ⟨S21, hS21, h⟩ := b1_some h
  refine r_setI (k := 0) (j := 41) sM_0 rfl pf_X12_270 hS21 dX12_laws_2 ?_
  refine r_aload_n 0 dX12_laws_5 rfl rfl ?_
  refine r_iconst (v := 0) dX12_laws_6 rfl ?_
  obtain ⟨S22, hS22, h⟩ := b1_some h
  refine r_setI (k := 0) (j := 37) sM_0 rfl pf_X12_279 hS22 dX12_laws_7 ?_
  refine r_aload_n 0 dX12_laws_10 rfl rfl ?_
  refine r_bipush (v := (-4)) dX12_laws_11 rfl ?_
  obtain ⟨S23, hS23, h⟩ := b1_some h
  refine r_setI (k := 0) (j := 53) sM_0 rfl pf_X12_316 hS23 dX12_laws_13 ?_
  refine r_aload_n 0 dX12_laws_16 rfl rfl ?_
  refine r_iconst (v := 0) dX12_laws_17 rfl ?_
  obtain ⟨S24, hS24, h⟩ := b1_some h
  refine r_setI (k := 0) (j := 56) sM_0 rfl pf_X12_319 hS24 dX12_laws_18 ?_
  refine r_iconst (v := 0) dX12_laws_21 rfl ?_
  refine r_istore_n (i := 1) [(0, .ref (ad_ G 0)), (1, .int 0)] [1, 0] dX12_laws_22 rfl (by decide) rfl ?_
  have key : ∀ ex, lp (fun w25 : Int32 × St => bX12_laws_23  w25.1 w25.2) 5000 (0, S24) = some ex → (fun u34 : St => Rn G shM 7 yX12_laws cX12_laws 2 (some .int) 74 [(0, .ref (ad_ G 0))] [] u34 post) ex → Rn G shM 7 yX12_laws cX12_laws 2 (some .int) 23 [(0, .ref (ad_ G 0)), (1, .int 0)] [] S24 post := by
    intro ex hl hx
    refine lp_rule (body := (fun w25 : Int32 × St => bX12_laws_23  w25.1 w25.2)) (R := (fun w25 : Int32 × St => Rn G shM 7 yX12_laws cX12_laws 2 (some .int) 23 [(0, .ref (ad_ G 0)), (1, .int w25.1)] [] w25.2 post)) (X := (fun u34 : St => Rn G shM 7 yX12_laws cX12_laws 2 (some .int) 74 [(0, .ref (ad_ G 0))] [] u34 post)) ?_ 5000 (0, S24) ex hl hx
    intro w25 oo h hB hX
    obtain ⟨v26, S27⟩ := w25
    replace h : bX12_laws_23  v26 S27 = some oo := h
    unfold bX12_laws_23 at h
    show Rn G shM 7 yX12_laws cX12_laws 2 (some .int) 23 [(0, .ref (ad_ G 0)), (1, .int v26)] [] S27 post
    refine r_iload_n 1 dX12_laws_23 rfl rfl ?_
    refine r_bipush (v := 8) dX12_laws_24 rfl ?_
    refine r_icmp_ge 74 dX12_laws_26 (by decide) (fun c33 => ?_) (fun c33 => ?_)
    · rw [if_pos c33] at h
      refine r_sub [(0, .ref (ad_ G 0))] [0] rfl ?_
      obtain rfl := Option.some.inj h
      exact hX S27 rfl
    · rw [if_neg c33] at h
      refine r_aload_n 0 dX12_laws_29 rfl rfl ?_
      refine r_getC (k := 0) (j := 50) (r := 34) sM_0 rfl fl_X12_118 dX12_laws_30 ?_
      refine r_iload_n 1 dX12_laws_33 rfl rfl ?_
      refine r_bipush (v := (-4)) dX12_laws_34 rfl ?_
      obtain ⟨S28, hS28, h⟩ := b1_some h
      refine r_iastore sM_34 hS28 dX12_laws_36 ?_
      refine r_aload_n 0 dX12_laws_37 rfl rfl ?_
      refine r_getC (k := 0) (j := 51) (r := 35) sM_0 rfl fl_X12_121 dX12_laws_38 ?_
      refine r_iload_n 1 dX12_laws_41 rfl rfl ?_
      refine r_bipush (v := (-4)) dX12_laws_42 rfl ?_
      obtain ⟨S29, hS29, h⟩ := b1_some h
      refine r_iastore sM_35 hS29 dX12_laws_44 ?_
      refine r_aload_n 0 dX12_laws_45 rfl rfl ?_
      refine r_getC (k := 0) (j := 52) (r := 36) sM_0 rfl fl_X12_124 dX12_laws_46 ?_
      refine r_iload_n 1 dX12_laws_49 rfl rfl ?_
      refine r_iconst (v := 0) dX12_laws_50 rfl ?_
      obtain ⟨S30, hS30, h⟩ := b1_some h
      refine r_iastore sM_36 hS30 dX12_laws_51 ?_
      refine r_aload_n 0 dX12_laws_52 rfl rfl ?_
      refine r_getC (k := 0) (j := 54) (r := 37) sM_0 rfl fl_X12_127 dX12_laws_53 ?_
      refine r_iload_n 1 dX12_laws_56 rfl rfl ?_
      refine r_bipush (v := (-4)) dX12_laws_57 rfl ?_
      obtain ⟨S31, hS31, h⟩ := b1_some h
      refine r_iastore sM_37 hS31 dX12_laws_59 ?_
      refine r_aload_n 0 dX12_laws_60 rfl rfl ?_
      refine r_getC (k := 0) (j := 55) (r := 38) sM_0 rfl fl_X12_130 dX12_laws_61 ?_
      refine r_iload_n 1 dX12_laws_64 rfl rfl ?_
      refine r_bipush (v := (-4)) dX12_laws_65 rfl ?_
      obtain ⟨S32, hS32, h⟩ := b1_some h
      refine r_iastore sM_38 hS32 dX12_laws_67 ?_
      refine r_iinc (v := v26 + 1) [(0, .ref (ad_ G 0)), (1, .int (v26 + 1))] 1 [1, 0] dX12_laws_68 rfl rfl (by decide) rfl ?_
      refine r_goto 23 dX12_laws_71 (by decide) ?_
      obtain rfl := Option.some.inj h
      exact hB (v26 + 1, S32) rfl
  obtain ⟨u34, hu34, h⟩ := b1_some h
  refine key u34 hu34 ?_
  show Rn G shM 7 yX12_laws cX12_laws 2 (some .int) 74 [(0, .ref (ad_ G 0))] [] u34 post
  refine r_aload_n 0 dX12_laws_74 rfl rfl ?_
  obtain ⟨S35, hS35, h⟩ := b1_some h
  refine r_callVv (k := 0) (rest := []) (by omega) (mX12_next hS35) sM_0 rfl rfl cb_X12_next ml_X12_313 im_X12_next se_X12_next rfl rfl (Nat.le_of_ble_eq_true rfl) dX12_laws_75 ?_
  have key : ∀ ex, lp (fun w36 : St => bX12_laws_78  w36) 5000 S35 = some ex → (fun u41 : St => Rn G shM 7 yX12_laws cX12_laws 2 (some .int) 99 [(0, .ref (ad_ G 0))] [] u41 post) ex → Rn G shM 7 yX12_laws cX12_laws 2 (some .int) 78 [(0, .ref (ad_ G 0))] [] S35 post := by
    intro ex hl hx
    refine lp_rule (body := (fun w36 : St => bX12_laws_78  w36)) (R := (fun w36 : St => Rn G shM 7 yX12_laws cX12_laws 2 (some .int) 78 [(0, .ref (ad_ G 0))] [] w36 post)) (X := (fun u41 : St => Rn G shM 7 yX12_laws cX12_laws 2 (some .int) 99 [(0, .ref (ad_ G 0))] [] u41 post)) ?_ 5000 S35 ex hl hx
    intro w36 oo h hB hX
    obtain ⟨S37, rfl⟩ : ∃ z, z = w36 := ⟨_, rfl⟩
    replace h : bX12_laws_78  S37 = some oo := h
    unfold bX12_laws_78 at h
    show Rn G shM 7 yX12_laws cX12_laws 2 (some .int) 78 [(0, .ref (ad_ G 0))] [] S37 post
    refine r_aload_n 0 dX12_laws_78 rfl rfl ?_
    refine r_getI (k := 0) (j := 41) sM_0 rfl fl_X12_270 dX12_laws_79 ?_
    refine r_if_ne 99 dX12_laws_82 (by decide) (fun c40 => ?_) (fun c40 => ?_)
    · rw [if_neg c40] at h
      obtain rfl := Option.some.inj h
      exact hX S37 rfl
    · rw [if_pos c40] at h
      refine r_aload_n 0 dX12_laws_85 rfl rfl ?_
      refine r_getI (k := 0) (j := 39) sM_0 rfl fl_X12_288 dX12_laws_86 ?_
      refine r_if_eq 99 dX12_laws_89 (by decide) (fun c39 => ?_) (fun c39 => ?_)
      · rw [if_pos c39] at h
        obtain rfl := Option.some.inj h
        exact hX S37 rfl
      · rw [if_neg c39] at h
        refine r_aload_n 0 dX12_laws_92 rfl rfl ?_
        obtain ⟨S38, hS38, h⟩ := b1_some h
        refine r_callVv (k := 0) (rest := []) (by omega) (mX12_readLaw hS38) sM_0 rfl rfl cb_X12_readLaw ml_X12_352 im_X12_readLaw se_X12_readLaw rfl rfl (Nat.le_of_ble_eq_true rfl) dX12_laws_93 ?_
        refine r_goto 78 dX12_laws_96 (by decide) ?_
        obtain rfl := Option.some.inj h
        exact hB S38 rfl
  obtain ⟨u41, hu41, h⟩ := b1_some h
  refine key u41 hu41 ?_
  show Rn G shM 7 yX12_laws cX12_laws 2 (some .int) 99 [(0, .ref (ad_ G 0))] [] u41 post
  refine r_aload_n 0 dX12_laws_99 rfl rfl ?_
  refine r_iconst (v := 0) dX12_laws_100 rfl ?_
  obtain ⟨S42, hS42, h⟩ := b1_some h
  refine r_setI (k := 0) (j := 36) sM_0 rfl pf_X12_267 hS42 dX12_laws_101 ?_
  refine r_aload_n 0 dX12_laws_104 rfl rfl ?_
  refine r_getI (k := 0) (j := 41) sM_0 rfl fl_X12_270 dX12_laws_105 ?_
  refine r_if_le 119 dX12_laws_108 (by decide) (fun c44 => ?_) (fun c44 => ?_)
  · rw [if_pos c44] at h
    refine r_aload_n 0 dX12_laws_119 rfl rfl ?_
    obtain ⟨S43, hS43, h⟩ := b1_some h
    refine r_callVv (k := 0) (rest := []) (by omega) (mX12_takes hS43) sM_0 rfl rfl cb_X12_takes ml_X12_322 im_X12_takes se_X12_takes rfl rfl (Nat.le_of_ble_eq_true rfl) dX12_laws_120 ?_
    refine r_aload_n 0 dX12_laws_123 rfl rfl ?_
    refine r_getI (k := 0) (j := 49) sM_0 rfl fl_X12_328 dX12_laws_124 ?_
    obtain rfl := Option.some.inj h
    exact r_ireturn rfl dX12_laws_127 (hp)
  · rw [if_neg c44] at h
    refine r_bipush (v := (-10)) dX12_laws_111 rfl ?_
    refine r_aload_n 0 dX12_laws_113 rfl rfl ?_
    refine r_getI (k := 0) (j := 42) sM_0 rfl fl_X12_276 dX12_laws_114 ?_
    refine r_isub dX12_laws_117 ?_
    obtain rfl := Option.some.inj h
    exact r_ireturn rfl dX12_laws_118 (hp)
theorem mX12_laws {G : Gx} {S : St} {o : (Int32 × St)}  (h : fX12_laws S = some o) : MR_ G shM 7 yX12_laws cX12_laws 2 (some .int) [.ref (ad_ G 0)] S (PI_ o.1 o.2) := MR_of cb_X12_laws (Nat.le_of_ble_eq_true rfl) [(0, .ref (ad_ G 0))] rfl (tX12_laws  h ⟨rfl, rfl⟩)
set_option maxRecDepth 100000 in
set_option maxHeartbeats 4000000 in
theorem tX12_fault {G : Gx} {post : Option Value → St → Prop} {S : St} {o : Int32}  (h : fX12_fault S = some o) (hp : post (some (.int o)) S) : Rn G shM 0 yX12_fault cX12_fault 1 (some .int) 0 [(0, .ref (ad_ G 0))] [] S post := by
  unfold fX12_fault at h
  refine r_aload_n 0 dX12_fault_0 rfl rfl ?_
  refine r_getI (k := 0) (j := 41) sM_0 rfl fl_X12_270 dX12_fault_1 ?_
  obtain rfl := Option.some.inj h
  exact r_ireturn rfl dX12_fault_4 (hp)
theorem mX12_fault {G : Gx} {S : St} {o : Int32}  (h : fX12_fault S = some o) : MR_ G shM 0 yX12_fault cX12_fault 1 (some .int) [.ref (ad_ G 0)] S (PI_ o S) := MR_of cb_X12_fault (Nat.le_of_ble_eq_true rfl) [(0, .ref (ad_ G 0))] rfl (tX12_fault  h ⟨rfl, rfl⟩)
set_option maxRecDepth 100000 in
set_option maxHeartbeats 4000000 in
theorem tX12_stamp {G : Gx} {post : Option Value → St → Prop} {S : St} {v1 : Int32} {v2 : Int32} {o : Int32}  (h : fX12_stamp S v1 v2 = some o) (hp : post (some (.int o)) S) : Rn G shM 1 yX12_stamp cX12_stamp 3 (some .int) 0 [(0, .ref (ad_ G 0)), (1, .int v1), (2, .int v2)] [] S post := by
  unfold fX12_stamp at h
  refine r_iload_n 1 dX12_stamp_0 rfl rfl ?_
  refine r_i2l dX12_stamp_1 ?_
  refine r_lconst (v := 0) dX12_stamp_2 rfl ?_
  refine r_ldc2 kl_X12_249 dX12_stamp_3 ?_
  obtain ⟨x21, hx21, h⟩ := b1_some h
  refine r_callSi (rest := []) (by omega) (mX12_in hx21) cb_X12_in ml_X12_145 sm_X12_in rfl rfl (Nat.le_of_ble_eq_true rfl) dX12_stamp_6 ?_
  refine r_if_eq 24 dX12_stamp_9 (by decide) (fun c29 => ?_) (fun c29 => ?_)
  · rw [if_pos c29] at h
    refine r_iconst (v := (-1)) dX12_stamp_24 rfl ?_
    refine r_goto 61 dX12_stamp_25 (by decide) ?_
    obtain rfl := Option.some.inj h
    exact r_ireturn rfl dX12_stamp_61 (hp)
  · rw [if_neg c29] at h
    refine r_iload_n 2 dX12_stamp_12 rfl rfl ?_
    refine r_i2l dX12_stamp_13 ?_
    refine r_lconst (v := 0) dX12_stamp_14 rfl ?_
    refine r_ldc2 kl_X12_355 dX12_stamp_15 ?_
    obtain ⟨x22, hx22, h⟩ := b1_some h
    refine r_callSi (rest := []) (by omega) (mX12_in hx22) cb_X12_in ml_X12_145 sm_X12_in rfl rfl (Nat.le_of_ble_eq_true rfl) dX12_stamp_18 ?_
    refine r_if_ne 28 dX12_stamp_21 (by decide) (fun c28 => ?_) (fun c28 => ?_)
    · rw [if_neg c28] at h
      refine r_iload_n 2 dX12_stamp_28 rfl rfl ?_
      refine r_if_ne 41 dX12_stamp_29 (by decide) (fun c27 => ?_) (fun c27 => ?_)
      · rw [if_neg c27] at h
        refine r_iload_n 2 dX12_stamp_41 rfl rfl ?_
        refine r_iconst (v := 1) dX12_stamp_42 rfl ?_
        refine r_icmp_ne 55 dX12_stamp_43 (by decide) (fun c25 => ?_) (fun c25 => ?_)
        · rw [if_neg c25] at h
          refine r_aload_n 0 dX12_stamp_55 rfl rfl ?_
          refine r_getC (k := 0) (j := 45) (r := 31) sM_0 rfl fl_X12_109 dX12_stamp_56 ?_
          refine r_iload_n 1 dX12_stamp_59 rfl rfl ?_
          obtain ⟨x23, hx23, h⟩ := b1_some h
          refine r_iaload sM_31 hx23 dX12_stamp_60 ?_
          obtain rfl := Option.some.inj h
          exact r_ireturn rfl dX12_stamp_61 (hp)
        · rw [if_pos c25] at h
          refine r_aload_n 0 dX12_stamp_46 rfl rfl ?_
          refine r_getC (k := 0) (j := 44) (r := 30) sM_0 rfl fl_X12_106 dX12_stamp_47 ?_
          refine r_iload_n 1 dX12_stamp_50 rfl rfl ?_
          obtain ⟨x24, hx24, h⟩ := b1_some h
          refine r_iaload sM_30 hx24 dX12_stamp_51 ?_
          refine r_goto 61 dX12_stamp_52 (by decide) ?_
          obtain rfl := Option.some.inj h
          exact r_ireturn rfl dX12_stamp_61 (hp)
      · rw [if_pos c27] at h
        refine r_aload_n 0 dX12_stamp_32 rfl rfl ?_
        refine r_getC (k := 0) (j := 43) (r := 29) sM_0 rfl fl_X12_103 dX12_stamp_33 ?_
        refine r_iload_n 1 dX12_stamp_36 rfl rfl ?_
        obtain ⟨x26, hx26, h⟩ := b1_some h
        refine r_iaload sM_29 hx26 dX12_stamp_37 ?_
        refine r_goto 61 dX12_stamp_38 (by decide) ?_
        obtain rfl := Option.some.inj h
        exact r_ireturn rfl dX12_stamp_61 (hp)
    · rw [if_pos c28] at h
      refine r_iconst (v := (-1)) dX12_stamp_24 rfl ?_
      refine r_goto 61 dX12_stamp_25 (by decide) ?_
      obtain rfl := Option.some.inj h
      exact r_ireturn rfl dX12_stamp_61 (hp)
theorem mX12_stamp {G : Gx} {S : St} {v1 : Int32} {v2 : Int32} {o : Int32}  (h : fX12_stamp S v1 v2 = some o) : MR_ G shM 1 yX12_stamp cX12_stamp 3 (some .int) [.ref (ad_ G 0), .int v1, .int v2] S (PI_ o S) := MR_of cb_X12_stamp (Nat.le_of_ble_eq_true rfl) [(0, .ref (ad_ G 0)), (1, .int v1), (2, .int v2)] rfl (tX12_stamp  h ⟨rfl, rfl⟩)
set_option maxRecDepth 100000 in
set_option maxHeartbeats 4000000 in
theorem tX12_name {G : Gx} {post : Option Value → St → Prop} {S : St} {v1 : Int32} {v2 : Int32} {o : Int32}  (h : fX12_name S v1 v2 = some o) (hp : post (some (.int o)) S) : Rn G shM 1 yX12_name cX12_name 3 (some .int) 0 [(0, .ref (ad_ G 0)), (1, .int v1), (2, .int v2)] [] S post := by
  unfold fX12_name at h
  refine r_iload_n 1 dX12_name_0 rfl rfl ?_
  refine r_i2l dX12_name_1 ?_
  refine r_lconst (v := 0) dX12_name_2 rfl ?_
  refine r_ldc2 kl_X12_249 dX12_name_3 ?_
  obtain ⟨x21, hx21, h⟩ := b1_some h
  refine r_callSi (rest := []) (by omega) (mX12_in hx21) cb_X12_in ml_X12_145 sm_X12_in rfl rfl (Nat.le_of_ble_eq_true rfl) dX12_name_6 ?_
  refine r_if_eq 24 dX12_name_9 (by decide) (fun c29 => ?_) (fun c29 => ?_)
  · rw [if_pos c29] at h
    refine r_iconst (v := (-1)) dX12_name_24 rfl ?_
    refine r_goto 62 dX12_name_25 (by decide) ?_
    obtain rfl := Option.some.inj h
    exact r_ireturn rfl dX12_name_62 (hp)
  · rw [if_neg c29] at h
    refine r_iload_n 2 dX12_name_12 rfl rfl ?_
    refine r_i2l dX12_name_13 ?_
    refine r_lconst (v := 0) dX12_name_14 rfl ?_
    refine r_ldc2 kl_X12_355 dX12_name_15 ?_
    obtain ⟨x22, hx22, h⟩ := b1_some h
    refine r_callSi (rest := []) (by omega) (mX12_in hx22) cb_X12_in ml_X12_145 sm_X12_in rfl rfl (Nat.le_of_ble_eq_true rfl) dX12_name_18 ?_
    refine r_if_ne 28 dX12_name_21 (by decide) (fun c28 => ?_) (fun c28 => ?_)
    · rw [if_neg c28] at h
      refine r_iload_n 2 dX12_name_28 rfl rfl ?_
      refine r_if_ne 41 dX12_name_29 (by decide) (fun c27 => ?_) (fun c27 => ?_)
      · rw [if_neg c27] at h
        refine r_iload_n 2 dX12_name_41 rfl rfl ?_
        refine r_iconst (v := 1) dX12_name_42 rfl ?_
        refine r_icmp_ne 55 dX12_name_43 (by decide) (fun c25 => ?_) (fun c25 => ?_)
        · rw [if_neg c25] at h
          refine r_aload_n 0 dX12_name_55 rfl rfl ?_
          refine r_iload_n 1 dX12_name_56 rfl rfl ?_
          refine r_bipush (v := (-4)) dX12_name_57 rfl ?_
          obtain ⟨x23, hx23, h⟩ := b1_some h
          refine r_callVi (k := 0) (rest := []) (by omega) (mX12_wentOn hx23) sM_0 rfl rfl cb_X12_wentOn ml_X12_264 im_X12_wentOn se_X12_wentOn rfl rfl (Nat.le_of_ble_eq_true rfl) dX12_name_59 ?_
          obtain rfl := Option.some.inj h
          exact r_ireturn rfl dX12_name_62 (hp)
        · rw [if_pos c25] at h
          refine r_aload_n 0 dX12_name_46 rfl rfl ?_
          refine r_getC (k := 0) (j := 48) (r := 33) sM_0 rfl fl_X12_115 dX12_name_47 ?_
          refine r_iload_n 1 dX12_name_50 rfl rfl ?_
          obtain ⟨x24, hx24, h⟩ := b1_some h
          refine r_iaload sM_33 hx24 dX12_name_51 ?_
          refine r_goto 62 dX12_name_52 (by decide) ?_
          obtain rfl := Option.some.inj h
          exact r_ireturn rfl dX12_name_62 (hp)
      · rw [if_pos c27] at h
        refine r_aload_n 0 dX12_name_32 rfl rfl ?_
        refine r_getC (k := 0) (j := 47) (r := 32) sM_0 rfl fl_X12_112 dX12_name_33 ?_
        refine r_iload_n 1 dX12_name_36 rfl rfl ?_
        obtain ⟨x26, hx26, h⟩ := b1_some h
        refine r_iaload sM_32 hx26 dX12_name_37 ?_
        refine r_goto 62 dX12_name_38 (by decide) ?_
        obtain rfl := Option.some.inj h
        exact r_ireturn rfl dX12_name_62 (hp)
    · rw [if_pos c28] at h
      refine r_iconst (v := (-1)) dX12_name_24 rfl ?_
      refine r_goto 62 dX12_name_25 (by decide) ?_
      obtain rfl := Option.some.inj h
      exact r_ireturn rfl dX12_name_62 (hp)
theorem mX12_name {G : Gx} {S : St} {v1 : Int32} {v2 : Int32} {o : Int32}  (h : fX12_name S v1 v2 = some o) : MR_ G shM 1 yX12_name cX12_name 3 (some .int) [.ref (ad_ G 0), .int v1, .int v2] S (PI_ o S) := MR_of cb_X12_name (Nat.le_of_ble_eq_true rfl) [(0, .ref (ad_ G 0)), (1, .int v1), (2, .int v2)] rfl (tX12_name  h ⟨rfl, rfl⟩)
set_option maxRecDepth 100000 in
set_option maxHeartbeats 4000000 in
theorem tX12_findYears {G : Gx} {post : Option Value → St → Prop} {S : St} {v1 : Int32} {o : St}  (h : fX12_findYears S v1 = some o) (hp : post none o) : Rn G shM 1 yX12_findYears cX12_findYears 4 none 0 [(0, .ref (ad_ G 0)), (1, .int v1)] [] S post := by
  unfold fX12_findYears at h
  refine r_aload_n 0 dX12_findYears_0 rfl rfl ?_
  refine r_sipush (v := 1800) dX12_findYears_1 rfl ?_
  obtain ⟨S21, hS21, h⟩ := b1_some h
  refine r_setI (k := 0) (j := 57) sM_0 rfl pf_X12_357 hS21 dX12_findYears_4 ?_
  refine r_aload_n 0 dX12_findYears_7 rfl rfl ?_
  refine r_sipush (v := 2000) dX12_findYears_8 rfl ?_
  obtain ⟨S22, hS22, h⟩ := b1_some h
  refine r_setI (k := 0) (j := 58) sM_0 rfl pf_X12_360 hS22 dX12_findYears_11 ?_
  refine r_iconst (v := 0) dX12_findYears_14 rfl ?_
  refine r_istore_n (i := 2) [(0, .ref (ad_ G 0)), (1, .int v1), (2, .int 0)] [1, 2, 0] dX12_findYears_15 rfl (by decide) rfl ?_
  refine r_iconst (v := 0) dX12_findYears_16 rfl ?_
  refine r_istore_n (i := 3) [(0, .ref (ad_ G 0)), (1, .int v1), (2, .int 0), (3, .int 0)] [1, 2, 3, 0] dX12_findYears_17 rfl (by decide) rfl ?_
  have key : ∀ ex, lp (fun w23 : Int32 × Int32 × St => bX12_findYears_18 v1 w23.1 w23.2.1 w23.2.2) 5000 (0, 0, S22) = some ex → (fun u40 : Int32 × St => Rn G shM 1 yX12_findYears cX12_findYears 4 none 104 [(0, .ref (ad_ G 0)), (2, .int u40.1)] [] u40.2 post) ex → Rn G shM 1 yX12_findYears cX12_findYears 4 none 18 [(0, .ref (ad_ G 0)), (1, .int v1), (2, .int 0), (3, .int 0)] [] S22 post := by
    intro ex hl hx
    refine lp_rule (body := (fun w23 : Int32 × Int32 × St => bX12_findYears_18 v1 w23.1 w23.2.1 w23.2.2)) (R := (fun w23 : Int32 × Int32 × St => Rn G shM 1 yX12_findYears cX12_findYears 4 none 18 [(0, .ref (ad_ G 0)), (1, .int v1), (2, .int w23.1), (3, .int w23.2.1)] [] w23.2.2 post)) (X := (fun u40 : Int32 × St => Rn G shM 1 yX12_findYears cX12_findYears 4 none 104 [(0, .ref (ad_ G 0)), (2, .int u40.1)] [] u40.2 post)) ?_ 5000 (0, 0, S22) ex hl hx
    intro w23 oo h hB hX
    obtain ⟨v24, v25, S26⟩ := w23
    replace h : bX12_findYears_18 v1 v24 v25 S26 = some oo := h
    unfold bX12_findYears_18 at h
    show Rn G shM 1 yX12_findYears cX12_findYears 4 none 18 [(0, .ref (ad_ G 0)), (1, .int v1), (2, .int v24), (3, .int v25)] [] S26 post
    refine r_iload_n 3 dX12_findYears_18 rfl rfl ?_
    refine r_bipush (v := 8) dX12_findYears_19 rfl ?_
    refine r_icmp_ge 104 dX12_findYears_21 (by decide) (fun c39 => ?_) (fun c39 => ?_)
    · rw [if_pos c39] at h
      refine r_sub [(0, .ref (ad_ G 0)), (2, .int v24)] [0, 2] rfl ?_
      obtain rfl := Option.some.inj h
      exact hX (v24, S26) rfl
    · rw [if_neg c39] at h
      refine r_aload_n 0 dX12_findYears_24 rfl rfl ?_
      refine r_getC (k := 0) (j := 32) (r := 25) sM_0 rfl fl_X12_91 dX12_findYears_25 ?_
      refine r_iload_n 1 dX12_findYears_28 rfl rfl ?_
      obtain ⟨x27, hx27, h⟩ := b1_some h
      refine r_iaload sM_25 hx27 dX12_findYears_29 ?_
      refine r_iload_n 3 dX12_findYears_30 rfl rfl ?_
      refine r_ishr dX12_findYears_31 ?_
      refine r_iconst (v := 1) dX12_findYears_32 rfl ?_
      refine r_iand dX12_findYears_33 ?_
      refine r_iconst (v := 1) dX12_findYears_34 rfl ?_
      refine r_icmp_ne 98 dX12_findYears_35 (by decide) (fun c38 => ?_) (fun c38 => ?_)
      · rw [if_neg c38] at h
        refine r_iinc (v := v25 + 1) [(0, .ref (ad_ G 0)), (1, .int v1), (2, .int v24), (3, .int (v25 + 1))] 3 [1, 2, 3, 0] dX12_findYears_98 rfl rfl (by decide) rfl ?_
        refine r_goto 18 dX12_findYears_101 (by decide) ?_
        obtain rfl := Option.some.inj h
        exact hB (v24, v25 + 1, S26) rfl
      · rw [if_pos c38] at h
        refine r_aload_n 0 dX12_findYears_38 rfl rfl ?_
        refine r_aload_n 0 dX12_findYears_39 rfl rfl ?_
        refine r_getI (k := 0) (j := 57) sM_0 rfl fl_X12_357 dX12_findYears_40 ?_
        refine r_aload_n 0 dX12_findYears_43 rfl rfl ?_
        refine r_getC (k := 0) (j := 43) (r := 29) sM_0 rfl fl_X12_103 dX12_findYears_44 ?_
        refine r_iload_n 3 dX12_findYears_47 rfl rfl ?_
        obtain ⟨x28, hx28, h⟩ := b1_some h
        refine r_iaload sM_29 hx28 dX12_findYears_48 ?_
        obtain ⟨x29, hx29, h⟩ := b1_some h
        refine r_callSi (rest := [.ref (ad_ G 0)]) (by omega) (mX12_greatest hx29) cb_X12_greatest ml_X12_258 sm_X12_greatest rfl rfl (Nat.le_of_ble_eq_true rfl) dX12_findYears_49 ?_
        obtain ⟨S30, hS30, h⟩ := b1_some h
        refine r_setI (k := 0) (j := 57) sM_0 rfl pf_X12_357 hS30 dX12_findYears_52 ?_
        refine r_aload_n 0 dX12_findYears_55 rfl rfl ?_
        refine r_aload_n 0 dX12_findYears_56 rfl rfl ?_
        refine r_getI (k := 0) (j := 58) sM_0 rfl fl_X12_360 dX12_findYears_57 ?_
        refine r_aload_n 0 dX12_findYears_60 rfl rfl ?_
        refine r_getC (k := 0) (j := 44) (r := 30) sM_0 rfl fl_X12_106 dX12_findYears_61 ?_
        refine r_iload_n 3 dX12_findYears_64 rfl rfl ?_
        obtain ⟨x31, hx31, h⟩ := b1_some h
        refine r_iaload sM_30 hx31 dX12_findYears_65 ?_
        obtain ⟨x32, hx32, h⟩ := b1_some h
        refine r_callSi (rest := [.ref (ad_ G 0)]) (by omega) (mX12_least hx32) cb_X12_least ml_X12_254 sm_X12_least rfl rfl (Nat.le_of_ble_eq_true rfl) dX12_findYears_66 ?_
        obtain ⟨S33, hS33, h⟩ := b1_some h
        refine r_setI (k := 0) (j := 58) sM_0 rfl pf_X12_360 hS33 dX12_findYears_69 ?_
        refine r_iload_n 2 dX12_findYears_72 rfl rfl ?_
        refine r_if_ne 92 dX12_findYears_73 (by decide) (fun c37 => ?_) (fun c37 => ?_)
        · rw [if_neg c37] at h
          refine r_iconst (v := 1) dX12_findYears_92 rfl ?_
          refine r_goto 97 dX12_findYears_93 (by decide) ?_
          refine r_istore_n (i := 2) [(0, .ref (ad_ G 0)), (1, .int v1), (2, .int 1), (3, .int v25)] [1, 2, 0, 3] dX12_findYears_97 rfl (by decide) rfl ?_
          refine r_iinc (v := v25 + 1) [(0, .ref (ad_ G 0)), (1, .int v1), (2, .int 1), (3, .int (v25 + 1))] 3 [1, 2, 3, 0] dX12_findYears_98 rfl rfl (by decide) rfl ?_
          refine r_goto 18 dX12_findYears_101 (by decide) ?_
          obtain rfl := Option.some.inj h
          exact hB (1, v25 + 1, S33) rfl
        · rw [if_pos c37] at h
          refine r_aload_n 0 dX12_findYears_76 rfl rfl ?_
          refine r_getC (k := 0) (j := 45) (r := 31) sM_0 rfl fl_X12_109 dX12_findYears_77 ?_
          refine r_iload_n 3 dX12_findYears_80 rfl rfl ?_
          obtain ⟨x34, hx34, h⟩ := b1_some h
          refine r_iaload sM_31 hx34 dX12_findYears_81 ?_
          refine r_aload_n 0 dX12_findYears_82 rfl rfl ?_
          refine r_getC (k := 0) (j := 32) (r := 25) sM_0 rfl fl_X12_91 dX12_findYears_83 ?_
          refine r_iload_n 1 dX12_findYears_86 rfl rfl ?_
          obtain ⟨x35, hx35, h⟩ := b1_some h
          refine r_iaload sM_25 hx35 dX12_findYears_87 ?_
          refine r_iand dX12_findYears_88 ?_
          refine r_if_eq 96 dX12_findYears_89 (by decide) (fun c36 => ?_) (fun c36 => ?_)
          · rw [if_pos c36] at h
            refine r_iconst (v := 0) dX12_findYears_96 rfl ?_
            refine r_istore_n (i := 2) [(0, .ref (ad_ G 0)), (1, .int v1), (2, .int 0), (3, .int v25)] [1, 2, 0, 3] dX12_findYears_97 rfl (by decide) rfl ?_
            refine r_iinc (v := v25 + 1) [(0, .ref (ad_ G 0)), (1, .int v1), (2, .int 0), (3, .int (v25 + 1))] 3 [1, 2, 3, 0] dX12_findYears_98 rfl rfl (by decide) rfl ?_
            refine r_goto 18 dX12_findYears_101 (by decide) ?_
            obtain rfl := Option.some.inj h
            exact hB (0, v25 + 1, S33) rfl
          · rw [if_neg c36] at h
            refine r_iconst (v := 1) dX12_findYears_92 rfl ?_
            refine r_goto 97 dX12_findYears_93 (by decide) ?_
            refine r_istore_n (i := 2) [(0, .ref (ad_ G 0)), (1, .int v1), (2, .int 1), (3, .int v25)] [1, 2, 0, 3] dX12_findYears_97 rfl (by decide) rfl ?_
            refine r_iinc (v := v25 + 1) [(0, .ref (ad_ G 0)), (1, .int v1), (2, .int 1), (3, .int (v25 + 1))] 3 [1, 2, 3, 0] dX12_findYears_98 rfl rfl (by decide) rfl ?_
            refine r_goto 18 dX12_findYears_101 (by decide) ?_
            obtain rfl := Option.some.inj h
            exact hB (1, v25 + 1, S33) rfl
  obtain ⟨u40, hu40, h⟩ := b1_some h
  refine key u40 hu40 ?_
  show Rn G shM 1 yX12_findYears cX12_findYears 4 none 104 [(0, .ref (ad_ G 0)), (2, .int u40.1)] [] u40.2 post
  refine r_aload_n 0 dX12_findYears_104 rfl rfl ?_
  refine r_iload_n 1 dX12_findYears_105 rfl rfl ?_
  refine r_if_eq 113 dX12_findYears_106 (by decide) (fun c43 => ?_) (fun c43 => ?_)
  · rw [if_pos c43] at h
    refine r_aload_n 0 dX12_findYears_113 rfl rfl ?_
    refine r_getI (k := 0) (j := 58) sM_0 rfl fl_X12_360 dX12_findYears_114 ?_
    obtain ⟨S41, hS41, h⟩ := b1_some h
    refine r_setI (k := 0) (j := 58) sM_0 rfl pf_X12_360 hS41 dX12_findYears_117 ?_
    obtain rfl := Option.some.inj h
    exact r_return rfl dX12_findYears_120 (hp)
  · rw [if_neg c43] at h
    refine r_iconst (v := 0) dX12_findYears_109 rfl ?_
    refine r_goto 117 dX12_findYears_110 (by decide) ?_
    obtain ⟨S42, hS42, h⟩ := b1_some h
    refine r_setI (k := 0) (j := 58) sM_0 rfl pf_X12_360 hS42 dX12_findYears_117 ?_
    obtain rfl := Option.some.inj h
    exact r_return rfl dX12_findYears_120 (hp)
theorem mX12_findYears {G : Gx} {S : St} {v1 : Int32} {o : St}  (h : fX12_findYears S v1 = some o) : MR_ G shM 1 yX12_findYears cX12_findYears 4 none [.ref (ad_ G 0), .int v1] S (PV_ o) := MR_of cb_X12_findYears (Nat.le_of_ble_eq_true rfl) [(0, .ref (ad_ G 0)), (1, .int v1)] rfl (tX12_findYears  h ⟨rfl, rfl⟩)
set_option maxRecDepth 100000 in
set_option maxHeartbeats 4000000 in
theorem tX12_years {G : Gx} {post : Option Value → St → Prop} {S : St} {v1 : Int32} {v2 : Int32} {o : (Int32 × St)}  (h : fX12_years S v1 v2 = some o) (hp : post (some (.int o.1)) o.2) : Rn G shM 2 yX12_years cX12_years 4 (some .int) 0 [(0, .ref (ad_ G 0)), (1, .int v1), (2, .int v2)] [] S post := by
  unfold fX12_years at h
  refine r_iload_n 1 dX12_years_0 rfl rfl ?_
  refine r_i2l dX12_years_1 ?_
  refine r_lconst (v := 0) dX12_years_2 rfl ?_
  refine r_aload_n 0 dX12_years_3 rfl rfl ?_
  refine r_getI (k := 0) (j := 28) sM_0 rfl fl_X12_251 dX12_years_4 ?_
  refine r_iconst (v := 1) dX12_years_7 rfl ?_
  refine r_isub dX12_years_8 ?_
  refine r_i2l dX12_years_9 ?_
  obtain ⟨x21, hx21, h⟩ := b1_some h
  refine r_callSi (rest := []) (by omega) (mX12_in hx21) cb_X12_in ml_X12_145 sm_X12_in rfl rfl (Nat.le_of_ble_eq_true rfl) dX12_years_10 ?_
  refine r_if_eq 28 dX12_years_13 (by decide) (fun c30 => ?_) (fun c30 => ?_)
  · rw [if_pos c30] at h
    refine r_iconst (v := (-1)) dX12_years_28 rfl ?_
    obtain rfl := Option.some.inj h
    exact r_ireturn rfl dX12_years_29 (hp)
  · rw [if_neg c30] at h
    refine r_iload_n 2 dX12_years_16 rfl rfl ?_
    refine r_i2l dX12_years_17 ?_
    refine r_lconst (v := 0) dX12_years_18 rfl ?_
    refine r_ldc2 kl_X12_355 dX12_years_19 ?_
    obtain ⟨x22, hx22, h⟩ := b1_some h
    refine r_callSi (rest := []) (by omega) (mX12_in hx22) cb_X12_in ml_X12_145 sm_X12_in rfl rfl (Nat.le_of_ble_eq_true rfl) dX12_years_22 ?_
    refine r_if_ne 30 dX12_years_25 (by decide) (fun c29 => ?_) (fun c29 => ?_)
    · rw [if_neg c29] at h
      refine r_aload_n 0 dX12_years_30 rfl rfl ?_
      refine r_iload_n 1 dX12_years_31 rfl rfl ?_
      obtain ⟨S23, hS23, h⟩ := b1_some h
      refine r_callVv (k := 0) (rest := []) (by omega) (mX12_findYears hS23) sM_0 rfl rfl cb_X12_findYears ml_X12_363 im_X12_findYears se_X12_findYears rfl rfl (Nat.le_of_ble_eq_true rfl) dX12_years_32 ?_
      refine r_aload_n 0 dX12_years_35 rfl rfl ?_
      refine r_getI (k := 0) (j := 58) sM_0 rfl fl_X12_360 dX12_years_36 ?_
      refine r_aload_n 0 dX12_years_39 rfl rfl ?_
      refine r_getI (k := 0) (j := 57) sM_0 rfl fl_X12_357 dX12_years_40 ?_
      obtain ⟨w24, hw24, h⟩ := b1_some h
      have hJ : Rn G shM 2 yX12_years cX12_years 4 (some .int) 61 [(0, .ref (ad_ G 0)), (2, .int v2)] [.int w24] S23 post := by
        refine r_istore_n (i := 3) [(0, .ref (ad_ G 0)), (2, .int v2), (3, .int w24)] [1, 2, 0] dX12_years_61 rfl (by decide) rfl ?_
        refine r_iload_n 1 dX12_years_62 rfl rfl ?_
        refine r_if_ne 70 dX12_years_63 (by decide) (fun c27 => ?_) (fun c27 => ?_)
        · rw [if_neg c27] at h
          refine r_iload_n 2 dX12_years_70 rfl rfl ?_
          refine r_if_ne 79 dX12_years_71 (by decide) (fun c26 => ?_) (fun c26 => ?_)
          · rw [if_neg c26] at h
            refine r_iload_n 1 dX12_years_79 rfl rfl ?_
            refine r_iconst (v := 1) dX12_years_80 rfl ?_
            refine r_icmp_ne 91 dX12_years_81 (by decide) (fun c25 => ?_) (fun c25 => ?_)
            · rw [if_neg c25] at h
              refine r_aload_n 0 dX12_years_91 rfl rfl ?_
              refine r_getI (k := 0) (j := 58) sM_0 rfl fl_X12_360 dX12_years_92 ?_
              obtain rfl := Option.some.inj h
              exact r_ireturn rfl dX12_years_95 (hp)
            · rw [if_pos c25] at h
              refine r_aload_n 0 dX12_years_84 rfl rfl ?_
              refine r_getI (k := 0) (j := 57) sM_0 rfl fl_X12_357 dX12_years_85 ?_
              refine r_goto 95 dX12_years_88 (by decide) ?_
              obtain rfl := Option.some.inj h
              exact r_ireturn rfl dX12_years_95 (hp)
          · rw [if_pos c26] at h
            refine r_bipush (v := (-4)) dX12_years_74 rfl ?_
            refine r_goto 95 dX12_years_76 (by decide) ?_
            obtain rfl := Option.some.inj h
            exact r_ireturn rfl dX12_years_95 (hp)
        · rw [if_pos c27] at h
          refine r_iload_n 2 dX12_years_66 rfl rfl ?_
          refine r_goto 95 dX12_years_67 (by decide) ?_
          obtain rfl := Option.some.inj h
          exact r_ireturn rfl dX12_years_95 (hp)
      clear h
      replace h := hw24
      refine r_icmp_ge 50 dX12_years_43 (by decide) (fun c28 => ?_) (fun c28 => ?_)
      · rw [if_pos c28] at h
        refine r_aload_n 0 dX12_years_50 rfl rfl ?_
        refine r_getI (k := 0) (j := 58) sM_0 rfl fl_X12_360 dX12_years_51 ?_
        refine r_aload_n 0 dX12_years_54 rfl rfl ?_
        refine r_getI (k := 0) (j := 57) sM_0 rfl fl_X12_357 dX12_years_55 ?_
        refine r_isub dX12_years_58 ?_
        refine r_iconst (v := 1) dX12_years_59 rfl ?_
        refine r_iadd dX12_years_60 ?_
        refine r_sub [(0, .ref (ad_ G 0)), (2, .int v2)] [0, 2] rfl ?_
        obtain rfl := Option.some.inj h
        exact hJ
      · rw [if_neg c28] at h
        refine r_iconst (v := 0) dX12_years_46 rfl ?_
        refine r_goto 61 dX12_years_47 (by decide) ?_
        refine r_sub [(0, .ref (ad_ G 0)), (2, .int v2)] [0, 2] rfl ?_
        obtain rfl := Option.some.inj h
        exact hJ
    · rw [if_pos c29] at h
      refine r_iconst (v := (-1)) dX12_years_28 rfl ?_
      obtain rfl := Option.some.inj h
      exact r_ireturn rfl dX12_years_29 (hp)
theorem mX12_years {G : Gx} {S : St} {v1 : Int32} {v2 : Int32} {o : (Int32 × St)}  (h : fX12_years S v1 v2 = some o) : MR_ G shM 2 yX12_years cX12_years 4 (some .int) [.ref (ad_ G 0), .int v1, .int v2] S (PI_ o.1 o.2) := MR_of cb_X12_years (Nat.le_of_ble_eq_true rfl) [(0, .ref (ad_ G 0)), (1, .int v1), (2, .int v2)] rfl (tX12_years  h ⟨rfl, rfl⟩)
set_option maxRecDepth 100000 in
set_option maxHeartbeats 4000000 in
theorem tX12_dated {G : Gx} {post : Option Value → St → Prop} {S : St} {v1 : Int32} {o : (Int32 × St)}  (h : fX12_dated S v1 = some o) (hp : post (some (.int o.1)) o.2) : Rn G shM 2 yX12_dated cX12_dated 4 (some .int) 0 [(0, .ref (ad_ G 0)), (1, .int v1)] [] S post := by
  unfold fX12_dated at h
  refine r_iload_n 1 dX12_dated_0 rfl rfl ?_
  refine r_i2l dX12_dated_1 ?_
  refine r_ldc2 kl_X12_366 dX12_dated_2 ?_
  refine r_ldc2 kl_X12_368 dX12_dated_5 ?_
  obtain ⟨x21, hx21, h⟩ := b1_some h
  refine r_callSi (rest := []) (by omega) (mX12_in hx21) cb_X12_in ml_X12_145 sm_X12_in rfl rfl (Nat.le_of_ble_eq_true rfl) dX12_dated_8 ?_
  refine r_if_ne 16 dX12_dated_11 (by decide) (fun c31 => ?_) (fun c31 => ?_)
  · rw [if_neg c31] at h
    refine r_iconst (v := 0) dX12_dated_16 rfl ?_
    refine r_istore_n (i := 2) [(0, .ref (ad_ G 0)), (1, .int v1), (2, .int 0)] [1, 2, 0] dX12_dated_17 rfl (by decide) rfl ?_
    refine r_iconst (v := 0) dX12_dated_18 rfl ?_
    refine r_istore_n (i := 3) [(0, .ref (ad_ G 0)), (1, .int v1), (2, .int 0), (3, .int 0)] [1, 2, 3, 0] dX12_dated_19 rfl (by decide) rfl ?_
    have key : ∀ ex, lp (fun w22 : Int32 × Int32 × St => bX12_dated_20 v1 w22.1 w22.2.1 w22.2.2) 5000 (0, 0, S) = some ex → (fun u30 : Int32 × St => Rn G shM 2 yX12_dated cX12_dated 4 (some .int) 65 [(2, .int u30.1)] [] u30.2 post) ex → Rn G shM 2 yX12_dated cX12_dated 4 (some .int) 20 [(0, .ref (ad_ G 0)), (1, .int v1), (2, .int 0), (3, .int 0)] [] S post := by
      intro ex hl hx
      refine lp_rule (body := (fun w22 : Int32 × Int32 × St => bX12_dated_20 v1 w22.1 w22.2.1 w22.2.2)) (R := (fun w22 : Int32 × Int32 × St => Rn G shM 2 yX12_dated cX12_dated 4 (some .int) 20 [(0, .ref (ad_ G 0)), (1, .int v1), (2, .int w22.1), (3, .int w22.2.1)] [] w22.2.2 post)) (X := (fun u30 : Int32 × St => Rn G shM 2 yX12_dated cX12_dated 4 (some .int) 65 [(2, .int u30.1)] [] u30.2 post)) ?_ 5000 (0, 0, S) ex hl hx
      intro w22 oo h hB hX
      obtain ⟨v23, v24, S25⟩ := w22
      replace h : bX12_dated_20 v1 v23 v24 S25 = some oo := h
      unfold bX12_dated_20 at h
      show Rn G shM 2 yX12_dated cX12_dated 4 (some .int) 20 [(0, .ref (ad_ G 0)), (1, .int v1), (2, .int v23), (3, .int v24)] [] S25 post
      refine r_iload_n 3 dX12_dated_20 rfl rfl ?_
      refine r_aload_n 0 dX12_dated_21 rfl rfl ?_
      refine r_getI (k := 0) (j := 28) sM_0 rfl fl_X12_251 dX12_dated_22 ?_
      refine r_icmp_ge 65 dX12_dated_25 (by decide) (fun c29 => ?_) (fun c29 => ?_)
      · rw [if_pos c29] at h
        refine r_sub [(2, .int v23)] [2] rfl ?_
        obtain rfl := Option.some.inj h
        exact hX (v23, S25) rfl
      · rw [if_neg c29] at h
        refine r_aload_n 0 dX12_dated_28 rfl rfl ?_
        refine r_iload_n 3 dX12_dated_29 rfl rfl ?_
        obtain ⟨S26, hS26, h⟩ := b1_some h
        refine r_callVv (k := 0) (rest := []) (by omega) (mX12_findYears hS26) sM_0 rfl rfl cb_X12_findYears ml_X12_363 im_X12_findYears se_X12_findYears rfl rfl (Nat.le_of_ble_eq_true rfl) dX12_dated_30 ?_
        refine r_iload_n 2 dX12_dated_33 rfl rfl ?_
        refine r_iload_n 1 dX12_dated_34 rfl rfl ?_
        refine r_i2l dX12_dated_35 ?_
        refine r_aload_n 0 dX12_dated_36 rfl rfl ?_
        refine r_getI (k := 0) (j := 57) sM_0 rfl fl_X12_357 dX12_dated_37 ?_
        refine r_i2l dX12_dated_40 ?_
        refine r_aload_n 0 dX12_dated_41 rfl rfl ?_
        refine r_getI (k := 0) (j := 58) sM_0 rfl fl_X12_360 dX12_dated_42 ?_
        refine r_i2l dX12_dated_45 ?_
        obtain ⟨x27, hx27, h⟩ := b1_some h
        refine r_callSi (rest := [.int v23]) (by omega) (mX12_in hx27) cb_X12_in ml_X12_145 sm_X12_in rfl rfl (Nat.le_of_ble_eq_true rfl) dX12_dated_46 ?_
        refine r_if_eq 56 dX12_dated_49 (by decide) (fun c28 => ?_) (fun c28 => ?_)
        · rw [if_pos c28] at h
          refine r_iconst (v := 0) dX12_dated_56 rfl ?_
          refine r_iadd dX12_dated_57 ?_
          refine r_istore_n (i := 2) [(0, .ref (ad_ G 0)), (1, .int v1), (2, .int (v23 + 0)), (3, .int v24)] [1, 2, 0, 3] dX12_dated_58 rfl (by decide) rfl ?_
          refine r_iinc (v := v24 + 1) [(0, .ref (ad_ G 0)), (1, .int v1), (2, .int (v23 + 0)), (3, .int (v24 + 1))] 3 [1, 2, 3, 0] dX12_dated_59 rfl rfl (by decide) rfl ?_
          refine r_goto 20 dX12_dated_62 (by decide) ?_
          obtain rfl := Option.some.inj h
          exact hB (v23 + 0, v24 + 1, S26) rfl
        · rw [if_neg c28] at h
          refine r_iconst (v := 1) dX12_dated_52 rfl ?_
          refine r_goto 57 dX12_dated_53 (by decide) ?_
          refine r_iadd dX12_dated_57 ?_
          refine r_istore_n (i := 2) [(0, .ref (ad_ G 0)), (1, .int v1), (2, .int (v23 + 1)), (3, .int v24)] [1, 2, 0, 3] dX12_dated_58 rfl (by decide) rfl ?_
          refine r_iinc (v := v24 + 1) [(0, .ref (ad_ G 0)), (1, .int v1), (2, .int (v23 + 1)), (3, .int (v24 + 1))] 3 [1, 2, 3, 0] dX12_dated_59 rfl rfl (by decide) rfl ?_
          refine r_goto 20 dX12_dated_62 (by decide) ?_
          obtain rfl := Option.some.inj h
          exact hB (v23 + 1, v24 + 1, S26) rfl
    obtain ⟨u30, hu30, h⟩ := b1_some h
    refine key u30 hu30 ?_
    show Rn G shM 2 yX12_dated cX12_dated 4 (some .int) 65 [(2, .int u30.1)] [] u30.2 post
    refine r_iload_n 0 dX12_dated_65 rfl rfl ?_
    obtain rfl := Option.some.inj h
    exact r_ireturn rfl dX12_dated_66 (hp)
  · rw [if_pos c31] at h
    refine r_iconst (v := (-1)) dX12_dated_14 rfl ?_
    obtain rfl := Option.some.inj h
    exact r_ireturn rfl dX12_dated_15 (hp)
theorem mX12_dated {G : Gx} {S : St} {v1 : Int32} {o : (Int32 × St)}  (h : fX12_dated S v1 = some o) : MR_ G shM 2 yX12_dated cX12_dated 4 (some .int) [.ref (ad_ G 0), .int v1] S (PI_ o.1 o.2) := MR_of cb_X12_dated (Nat.le_of_ble_eq_true rfl) [(0, .ref (ad_ G 0)), (1, .int v1)] rfl (tX12_dated  h ⟨rfl, rfl⟩)
set_option maxRecDepth 100000 in
set_option maxHeartbeats 4000000 in
theorem tX12_findLot {G : Gx} {post : Option Value → St → Prop} {S : St} {v1 : Int32} {o : St}  (h : fX12_findLot S v1 = some o) (hp : post none o) : Rn G shM 1 yX12_findLot cX12_findLot 6 none 0 [(0, .ref (ad_ G 0)), (1, .int v1)] [] S post := by
  unfold fX12_findLot at h
  refine r_aload_n 0 dX12_findLot_0 rfl rfl ?_
  refine r_iconst (v := 0) dX12_findLot_1 rfl ?_
  obtain ⟨S21, hS21, h⟩ := b1_some h
  refine r_setI (k := 0) (j := 59) sM_0 rfl pf_X12_370 hS21 dX12_findLot_2 ?_
  refine r_aload_n 0 dX12_findLot_5 rfl rfl ?_
  refine r_iconst (v := 0) dX12_findLot_6 rfl ?_
  obtain ⟨S22, hS22, h⟩ := b1_some h
  refine r_setI (k := 0) (j := 60) sM_0 rfl pf_X12_373 hS22 dX12_findLot_7 ?_
  refine r_aload_n 0 dX12_findLot_10 rfl rfl ?_
  refine r_iconst (v := 0) dX12_findLot_11 rfl ?_
  obtain ⟨S23, hS23, h⟩ := b1_some h
  refine r_setI (k := 0) (j := 61) sM_0 rfl pf_X12_376 hS23 dX12_findLot_12 ?_
  refine r_aload_n 0 dX12_findLot_15 rfl rfl ?_
  refine r_iconst (v := 0) dX12_findLot_16 rfl ?_
  obtain ⟨S24, hS24, h⟩ := b1_some h
  refine r_setI (k := 0) (j := 62) sM_0 rfl pf_X12_379 hS24 dX12_findLot_17 ?_
  refine r_aload_n 0 dX12_findLot_20 rfl rfl ?_
  refine r_iconst (v := 0) dX12_findLot_21 rfl ?_
  obtain ⟨S25, hS25, h⟩ := b1_some h
  refine r_setI (k := 0) (j := 63) sM_0 rfl pf_X12_382 hS25 dX12_findLot_22 ?_
  refine r_iconst (v := 0) dX12_findLot_25 rfl ?_
  refine r_istore_n (i := 2) [(0, .ref (ad_ G 0)), (1, .int v1), (2, .int 0)] [1, 2, 0] dX12_findLot_26 rfl (by decide) rfl ?_
  refine r_iconst (v := 0) dX12_findLot_27 rfl ?_
  refine r_istore_n (i := 3) [(0, .ref (ad_ G 0)), (1, .int v1), (2, .int 0), (3, .int 0)] [1, 2, 3, 0] dX12_findLot_28 rfl (by decide) rfl ?_
  refine r_iconst (v := 0) dX12_findLot_29 rfl ?_
  refine r_istore (i := 4) [(0, .ref (ad_ G 0)), (1, .int v1), (2, .int 0), (3, .int 0), (4, .int 0)] [1, 2, 3, 4, 0] dX12_findLot_30 (by decide) rfl ?_
  have key : ∀ ex, lp (fun w26 : Int32 × Int32 × Int32 × St => bX12_findLot_32 v1 w26.1 w26.2.1 w26.2.2.1 w26.2.2.2) 5000 (0, 0, 0, S25) = some ex → (fun u53 : St => Rn G shM 1 yX12_findLot cX12_findLot 6 none 193 [] [] u53 post) ex → Rn G shM 1 yX12_findLot cX12_findLot 6 none 32 [(0, .ref (ad_ G 0)), (1, .int v1), (2, .int 0), (3, .int 0), (4, .int 0)] [] S25 post := by
    intro ex hl hx
    refine lp_rule (body := (fun w26 : Int32 × Int32 × Int32 × St => bX12_findLot_32 v1 w26.1 w26.2.1 w26.2.2.1 w26.2.2.2)) (R := (fun w26 : Int32 × Int32 × Int32 × St => Rn G shM 1 yX12_findLot cX12_findLot 6 none 32 [(0, .ref (ad_ G 0)), (1, .int v1), (2, .int w26.1), (3, .int w26.2.1), (4, .int w26.2.2.1)] [] w26.2.2.2 post)) (X := (fun u53 : St => Rn G shM 1 yX12_findLot cX12_findLot 6 none 193 [] [] u53 post)) ?_ 5000 (0, 0, 0, S25) ex hl hx
    intro w26 oo h hB hX
    obtain ⟨v27, v28, v29, S30⟩ := w26
    replace h : bX12_findLot_32 v1 v27 v28 v29 S30 = some oo := h
    unfold bX12_findLot_32 at h
    show Rn G shM 1 yX12_findLot cX12_findLot 6 none 32 [(0, .ref (ad_ G 0)), (1, .int v1), (2, .int v27), (3, .int v28), (4, .int v29)] [] S30 post
    refine r_iload 4 dX12_findLot_32 rfl ?_
    refine r_aload_n 0 dX12_findLot_34 rfl rfl ?_
    refine r_getI (k := 0) (j := 28) sM_0 rfl fl_X12_251 dX12_findLot_35 ?_
    refine r_icmp_ge 193 dX12_findLot_38 (by decide) (fun c52 => ?_) (fun c52 => ?_)
    · rw [if_pos c52] at h
      refine r_sub [] [] rfl ?_
      obtain rfl := Option.some.inj h
      exact hX S30 rfl
    · rw [if_neg c52] at h
      refine r_aload_n 0 dX12_findLot_41 rfl rfl ?_
      refine r_getC (k := 0) (j := 29) (r := 22) sM_0 rfl fl_X12_82 dX12_findLot_42 ?_
      refine r_iload 4 dX12_findLot_45 rfl ?_
      obtain ⟨x31, hx31, h⟩ := b1_some h
      refine r_iaload sM_22 hx31 dX12_findLot_47 ?_
      refine r_iload_n 1 dX12_findLot_48 rfl rfl ?_
      refine r_icmp_ne 187 dX12_findLot_49 (by decide) (fun c51 => ?_) (fun c51 => ?_)
      · rw [if_neg c51] at h
        refine r_iinc (v := v29 + 1) [(0, .ref (ad_ G 0)), (1, .int v1), (2, .int v27), (3, .int v28), (4, .int (v29 + 1))] 4 [1, 2, 3, 4, 0] dX12_findLot_187 rfl rfl (by decide) rfl ?_
        refine r_goto 32 dX12_findLot_190 (by decide) ?_
        obtain rfl := Option.some.inj h
        exact hB (v27, v28, v29 + 1, S30) rfl
      · rw [if_pos c51] at h
        refine r_aload_n 0 dX12_findLot_52 rfl rfl ?_
        refine r_getC (k := 0) (j := 33) (r := 26) sM_0 rfl fl_X12_94 dX12_findLot_53 ?_
        refine r_iload 4 dX12_findLot_56 rfl ?_
        obtain ⟨x32, hx32, h⟩ := b1_some h
        refine r_iaload sM_26 hx32 dX12_findLot_58 ?_
        obtain ⟨w33, hw33, h⟩ := b1_some h
        have hJ : Rn G shM 1 yX12_findLot cX12_findLot 6 none 81 [(0, .ref (ad_ G 0)), (1, .int v1), (2, .int v27), (3, .int v28), (4, .int v29)] [.int w33] S30 post := by
          refine r_istore (i := 5) [(0, .ref (ad_ G 0)), (1, .int v1), (2, .int v27), (3, .int v28), (4, .int v29), (5, .int w33)] [1, 2, 3, 4, 5, 0] dX12_findLot_81 (by decide) rfl ?_
          refine r_aload_n 0 dX12_findLot_83 rfl rfl ?_
          refine r_dup dX12_findLot_84 rfl ?_
          refine r_getI (k := 0) (j := 59) sM_0 rfl fl_X12_370 dX12_findLot_85 ?_
          refine r_iconst (v := 1) dX12_findLot_88 rfl ?_
          refine r_iadd dX12_findLot_89 ?_
          obtain ⟨S34, hS34, h⟩ := b1_some h
          refine r_setI (k := 0) (j := 59) sM_0 rfl pf_X12_370 hS34 dX12_findLot_90 ?_
          refine r_aload_n 0 dX12_findLot_93 rfl rfl ?_
          refine r_dup dX12_findLot_94 rfl ?_
          refine r_getI (k := 0) (j := 60) sM_0 rfl fl_X12_373 dX12_findLot_95 ?_
          refine r_aload_n 0 dX12_findLot_98 rfl rfl ?_
          refine r_getC (k := 0) (j := 33) (r := 26) sM_0 rfl fl_X12_94 dX12_findLot_99 ?_
          refine r_iload 4 dX12_findLot_102 rfl ?_
          obtain ⟨x35, hx35, h⟩ := b1_some h
          refine r_iaload sM_26 hx35 dX12_findLot_104 ?_
          refine r_iadd dX12_findLot_105 ?_
          obtain ⟨S36, hS36, h⟩ := b1_some h
          refine r_setI (k := 0) (j := 60) sM_0 rfl pf_X12_373 hS36 dX12_findLot_106 ?_
          refine r_aload_n 0 dX12_findLot_109 rfl rfl ?_
          refine r_dup dX12_findLot_110 rfl ?_
          refine r_getI (k := 0) (j := 61) sM_0 rfl fl_X12_376 dX12_findLot_111 ?_
          refine r_aload_n 0 dX12_findLot_114 rfl rfl ?_
          refine r_getC (k := 0) (j := 30) (r := 23) sM_0 rfl fl_X12_85 dX12_findLot_115 ?_
          refine r_iload 4 dX12_findLot_118 rfl ?_
          obtain ⟨x37, hx37, h⟩ := b1_some h
          refine r_iaload sM_23 hx37 dX12_findLot_120 ?_
          refine r_iadd dX12_findLot_121 ?_
          obtain ⟨S38, hS38, h⟩ := b1_some h
          refine r_setI (k := 0) (j := 61) sM_0 rfl pf_X12_376 hS38 dX12_findLot_122 ?_
          refine r_aload_n 0 dX12_findLot_125 rfl rfl ?_
          refine r_dup dX12_findLot_126 rfl ?_
          refine r_getI (k := 0) (j := 62) sM_0 rfl fl_X12_379 dX12_findLot_127 ?_
          refine r_aload_n 0 dX12_findLot_130 rfl rfl ?_
          refine r_getC (k := 0) (j := 31) (r := 24) sM_0 rfl fl_X12_88 dX12_findLot_131 ?_
          refine r_iload 4 dX12_findLot_134 rfl ?_
          obtain ⟨x39, hx39, h⟩ := b1_some h
          refine r_zaload sM_24 hx39 dX12_findLot_136 ?_
          obtain ⟨w40, hw40, h⟩ := b1_some h
          have hJ : Rn G shM 1 yX12_findLot cX12_findLot 6 none 145 [(0, .ref (ad_ G 0)), (1, .int v1), (2, .int v27), (3, .int v28), (4, .int v29), (5, .int w33)] [.int w40, .int (gI_ S38 0 62), .ref (ad_ G 0)] S38 post := by
            refine r_iadd dX12_findLot_145 ?_
            obtain ⟨S41, hS41, h⟩ := b1_some h
            refine r_setI (k := 0) (j := 62) sM_0 rfl pf_X12_379 hS41 dX12_findLot_146 ?_
            refine r_iload 5 dX12_findLot_149 rfl ?_
            obtain ⟨w42, hw42, h⟩ := b1_some h
            have hJ : Rn G shM 1 yX12_findLot cX12_findLot 6 none 171 [(0, .ref (ad_ G 0)), (1, .int v1), (4, .int v29), (5, .int w33)] [.int w42] S41 post := by
              refine r_istore_n (i := 2) [(0, .ref (ad_ G 0)), (1, .int v1), (2, .int w42), (4, .int v29), (5, .int w33)] [1, 2, 0, 3, 4] dX12_findLot_171 rfl (by decide) rfl ?_
              refine r_iload 4 dX12_findLot_172 rfl ?_
              refine r_istore_n (i := 3) [(0, .ref (ad_ G 0)), (1, .int v1), (2, .int w42), (3, .int w33), (4, .int v29), (5, .int w33)] [1, 2, 3, 0, 4, 5] dX12_findLot_174 rfl (by decide) rfl ?_
              refine r_aload_n 0 dX12_findLot_175 rfl rfl ?_
              refine r_aload_n 0 dX12_findLot_176 rfl rfl ?_
              refine r_getI (k := 0) (j := 63) sM_0 rfl fl_X12_382 dX12_findLot_177 ?_
              refine r_iload_n 2 dX12_findLot_180 rfl rfl ?_
              obtain ⟨x43, hx43, h⟩ := b1_some h
              refine r_callSi (rest := [.ref (ad_ G 0)]) (by omega) (mX12_greatest hx43) cb_X12_greatest ml_X12_258 sm_X12_greatest rfl rfl (Nat.le_of_ble_eq_true rfl) dX12_findLot_181 ?_
              obtain ⟨S44, hS44, h⟩ := b1_some h
              refine r_setI (k := 0) (j := 63) sM_0 rfl pf_X12_382 hS44 dX12_findLot_184 ?_
              refine r_iinc (v := v29 + 1) [(0, .ref (ad_ G 0)), (1, .int v1), (2, .int w42), (3, .int w33), (4, .int (v29 + 1)), (5, .int w33)] 4 [1, 2, 3, 4, 0, 5] dX12_findLot_187 rfl rfl (by decide) rfl ?_
              refine r_goto 32 dX12_findLot_190 (by decide) ?_
              refine r_sub [(0, .ref (ad_ G 0)), (1, .int v1), (2, .int w42), (3, .int w33), (4, .int (v29 + 1))] [0, 1, 2, 3, 4] rfl ?_
              obtain rfl := Option.some.inj h
              exact hB (w42, w33, v29 + 1, S44) rfl
            clear h
            replace h := hw42
            refine r_if_ne 158 dX12_findLot_151 (by decide) (fun c46 => ?_) (fun c46 => ?_)
            · rw [if_neg c46] at h
              refine r_iload 5 dX12_findLot_158 rfl ?_
              refine r_iload_n 3 dX12_findLot_160 rfl rfl ?_
              refine r_icmp_ne 170 dX12_findLot_161 (by decide) (fun c45 => ?_) (fun c45 => ?_)
              · rw [if_neg c45] at h
                refine r_iconst (v := 1) dX12_findLot_170 rfl ?_
                refine r_sub [(0, .ref (ad_ G 0)), (1, .int v1), (4, .int v29), (5, .int w33)] [0, 1, 4, 5] rfl ?_
                obtain rfl := Option.some.inj h
                exact hJ
              · rw [if_pos c45] at h
                refine r_iload_n 2 dX12_findLot_164 rfl rfl ?_
                refine r_iconst (v := 1) dX12_findLot_165 rfl ?_
                refine r_iadd dX12_findLot_166 ?_
                refine r_goto 171 dX12_findLot_167 (by decide) ?_
                refine r_sub [(0, .ref (ad_ G 0)), (1, .int v1), (4, .int v29), (5, .int w33)] [0, 1, 4, 5] rfl ?_
                obtain rfl := Option.some.inj h
                exact hJ
            · rw [if_pos c46] at h
              refine r_iconst (v := 0) dX12_findLot_154 rfl ?_
              refine r_goto 171 dX12_findLot_155 (by decide) ?_
              refine r_sub [(0, .ref (ad_ G 0)), (1, .int v1), (4, .int v29), (5, .int w33)] [0, 1, 4, 5] rfl ?_
              obtain rfl := Option.some.inj h
              exact hJ
          clear h
          replace h := hw40
          refine r_if_eq 144 dX12_findLot_137 (by decide) (fun c47 => ?_) (fun c47 => ?_)
          · rw [if_pos c47] at h
            refine r_iconst (v := 0) dX12_findLot_144 rfl ?_
            obtain rfl := Option.some.inj h
            exact hJ
          · rw [if_neg c47] at h
            refine r_iconst (v := 1) dX12_findLot_140 rfl ?_
            refine r_goto 145 dX12_findLot_141 (by decide) ?_
            obtain rfl := Option.some.inj h
            exact hJ
        clear h
        replace h := hw33
        refine r_if_le 66 dX12_findLot_59 (by decide) (fun c50 => ?_) (fun c50 => ?_)
        · rw [if_pos c50] at h
          refine r_aload_n 0 dX12_findLot_66 rfl rfl ?_
          refine r_getC (k := 0) (j := 33) (r := 26) sM_0 rfl fl_X12_94 dX12_findLot_67 ?_
          refine r_iload 4 dX12_findLot_70 rfl ?_
          obtain ⟨x48, hx48, h⟩ := b1_some h
          refine r_iaload sM_26 hx48 dX12_findLot_72 ?_
          refine r_if_ge 80 dX12_findLot_73 (by decide) (fun c49 => ?_) (fun c49 => ?_)
          · rw [if_pos c49] at h
            refine r_iconst (v := 0) dX12_findLot_80 rfl ?_
            obtain rfl := Option.some.inj h
            exact hJ
          · rw [if_neg c49] at h
            refine r_iconst (v := (-1)) dX12_findLot_76 rfl ?_
            refine r_goto 81 dX12_findLot_77 (by decide) ?_
            obtain rfl := Option.some.inj h
            exact hJ
        · rw [if_neg c50] at h
          refine r_iconst (v := 1) dX12_findLot_62 rfl ?_
          refine r_goto 81 dX12_findLot_63 (by decide) ?_
          obtain rfl := Option.some.inj h
          exact hJ
  obtain ⟨u53, hu53, h⟩ := b1_some h
  refine key u53 hu53 ?_
  show Rn G shM 1 yX12_findLot cX12_findLot 6 none 193 [] [] u53 post
  obtain rfl := Option.some.inj h
  exact r_return rfl dX12_findLot_193 (hp)
theorem mX12_findLot {G : Gx} {S : St} {v1 : Int32} {o : St}  (h : fX12_findLot S v1 = some o) : MR_ G shM 1 yX12_findLot cX12_findLot 6 none [.ref (ad_ G 0), .int v1] S (PV_ o) := MR_of cb_X12_findLot (Nat.le_of_ble_eq_true rfl) [(0, .ref (ad_ G 0)), (1, .int v1)] rfl (tX12_findLot  h ⟨rfl, rfl⟩)
set_option maxRecDepth 100000 in
set_option maxHeartbeats 4000000 in
theorem tX12_plain {G : Gx} {post : Option Value → St → Prop} {S : St} {v0 : Int32} {o : Int32}  (h : fX12_plain S v0 = some o) (hp : post (some (.int o)) S) : Rn G shM 0 yX12_plain cX12_plain 1 (some .int) 0 [(0, .int v0)] [] S post := by
  unfold fX12_plain at h
  refine r_iload_n 0 dX12_plain_0 rfl rfl ?_
  refine r_if_ge 9 dX12_plain_1 (by decide) (fun c21 => ?_) (fun c21 => ?_)
  · rw [if_pos c21] at h
    refine r_iload_n 0 dX12_plain_9 rfl rfl ?_
    obtain rfl := Option.some.inj h
    exact r_ireturn rfl dX12_plain_10 (hp)
  · rw [if_neg c21] at h
    refine r_iload_n 0 dX12_plain_4 rfl rfl ?_
    refine r_ineg dX12_plain_5 ?_
    refine r_goto 10 dX12_plain_6 (by decide) ?_
    obtain rfl := Option.some.inj h
    exact r_ireturn rfl dX12_plain_10 (hp)
theorem mX12_plain {G : Gx} {S : St} {v0 : Int32} {o : Int32}  (h : fX12_plain S v0 = some o) : MR_ G shM 0 yX12_plain cX12_plain 1 (some .int) [.int v0] S (PI_ o S) := MR_of cb_X12_plain (Nat.le_of_ble_eq_true rfl) [(0, .int v0)] rfl (tX12_plain  h ⟨rfl, rfl⟩)
set_option maxRecDepth 100000 in
set_option maxHeartbeats 4000000 in
theorem tX12_isOff {G : Gx} {post : Option Value → St → Prop} {S : St} {o : Int32}  (h : fX12_isOff S = some o) (hp : post (some (.int o)) S) : Rn G shM 1 yX12_isOff cX12_isOff 1 (some .boolean) 0 [(0, .ref (ad_ G 0))] [] S post := by
  unfold fX12_isOff at h
  refine r_aload_n 0 dX12_isOff_0 rfl rfl ?_
  refine r_getI (k := 0) (j := 59) sM_0 rfl fl_X12_370 dX12_isOff_1 ?_
  refine r_iconst (v := 2) dX12_isOff_4 rfl ?_
  refine r_icmp_lt 31 dX12_isOff_5 (by decide) (fun c23 => ?_) (fun c23 => ?_)
  · rw [if_pos c23] at h
    refine r_iconst (v := 0) dX12_isOff_31 rfl ?_
    obtain rfl := Option.some.inj h
    exact r_zreturn rfl (by decide) dX12_isOff_32 (hp)
  · rw [if_neg c23] at h
    refine r_aload_n 0 dX12_isOff_8 rfl rfl ?_
    refine r_getI (k := 0) (j := 60) sM_0 rfl fl_X12_373 dX12_isOff_9 ?_
    obtain ⟨x21, hx21, h⟩ := b1_some h
    refine r_callSi (rest := []) (by omega) (mX12_plain hx21) cb_X12_plain ml_X12_385 sm_X12_plain rfl rfl (Nat.le_of_ble_eq_true rfl) dX12_isOff_12 ?_
    refine r_aload_n 0 dX12_isOff_15 rfl rfl ?_
    refine r_getI (k := 0) (j := 46) sM_0 rfl fl_X12_325 dX12_isOff_16 ?_
    refine r_aload_n 0 dX12_isOff_19 rfl rfl ?_
    refine r_getI (k := 0) (j := 59) sM_0 rfl fl_X12_370 dX12_isOff_20 ?_
    refine r_imul dX12_isOff_23 ?_
    refine r_icmp_le 31 dX12_isOff_24 (by decide) (fun c22 => ?_) (fun c22 => ?_)
    · rw [if_pos c22] at h
      refine r_iconst (v := 0) dX12_isOff_31 rfl ?_
      obtain rfl := Option.some.inj h
      exact r_zreturn rfl (by decide) dX12_isOff_32 (hp)
    · rw [if_neg c22] at h
      refine r_iconst (v := 1) dX12_isOff_27 rfl ?_
      refine r_goto 32 dX12_isOff_28 (by decide) ?_
      obtain rfl := Option.some.inj h
      exact r_zreturn rfl (by decide) dX12_isOff_32 (hp)
theorem mX12_isOff {G : Gx} {S : St} {o : Int32}  (h : fX12_isOff S = some o) : MR_ G shM 1 yX12_isOff cX12_isOff 1 (some .boolean) [.ref (ad_ G 0)] S (PI_ o S) := MR_of cb_X12_isOff (Nat.le_of_ble_eq_true rfl) [(0, .ref (ad_ G 0))] rfl (tX12_isOff  h ⟨rfl, rfl⟩)
