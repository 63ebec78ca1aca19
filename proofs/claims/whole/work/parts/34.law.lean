theorem ml_L_13 : Cond.methodLink R_law 13 yX11_burl ∈ TB_ := tbm 453 (by decide +kernel) (by decide +kernel)
theorem ml_L_17 : Cond.methodLink R_law 17 yX12_burl ∈ TB_ := tbm 1343 (by decide +kernel) (by decide +kernel)
theorem ml_L_18 : Cond.methodLink R_law 18 yX11_crack ∈ TB_ := tbm 464 (by decide +kernel) (by decide +kernel)
theorem ml_L_22 : Cond.methodLink R_law 22 yX12_crack ∈ TB_ := tbm 1351 (by decide +kernel) (by decide +kernel)
theorem ml_L_23 : Cond.methodLink R_law 23 yX11_grain ∈ TB_ := tbm 497 (by decide +kernel) (by decide +kernel)
theorem ml_L_27 : Cond.methodLink R_law 27 yX12_grain ∈ TB_ := tbm 1363 (by decide +kernel) (by decide +kernel)
theorem ml_L_28 : Cond.methodLink R_law 28 yX11_shape ∈ TB_ := tbm 501 (by decide +kernel) (by decide +kernel)
theorem ml_L_32 : Cond.methodLink R_law 32 yX12_shape ∈ TB_ := tbm 1372 (by decide +kernel) (by decide +kernel)
theorem ml_L_33 : Cond.methodLink R_law 33 yX11_drop ∈ TB_ := tbm 509 (by decide +kernel) (by decide +kernel)
theorem ml_L_37 : Cond.methodLink R_law 37 yX12_drop ∈ TB_ := tbm 1377 (by decide +kernel) (by decide +kernel)
theorem ml_L_38 : Cond.methodLink R_law 38 yX11_fits ∈ TB_ := tbm 517 (by decide +kernel) (by decide +kernel)
theorem ml_L_42 : Cond.methodLink R_law 42 yX12_fits ∈ TB_ := tbm 1381 (by decide +kernel) (by decide +kernel)
theorem ml_L_43 : Cond.methodLink R_law 43 yX11_open ∈ TB_ := tbm 541 (by decide +kernel) (by decide +kernel)
theorem ml_L_46 : Cond.methodLink R_law 46 yX12_open ∈ TB_ := tbm 1409 (by decide +kernel) (by decide +kernel)
theorem ml_L_47 : Cond.methodLink R_law 47 yX11_most ∈ TB_ := tbm 554 (by decide +kernel) (by decide +kernel)
theorem ml_L_51 : Cond.methodLink R_law 51 yX12_most ∈ TB_ := tbm 1417 (by decide +kernel) (by decide +kernel)
theorem ml_L_52 : Cond.methodLink R_law 52 yX11_cut ∈ TB_ := tbm 612 (by decide +kernel) (by decide +kernel)
theorem ml_L_55 : Cond.methodLink R_law 55 yX12_cut ∈ TB_ := tbm 1432 (by decide +kernel) (by decide +kernel)
theorem ml_L_56 : Cond.methodLink R_law 56 yX11_sawn ∈ TB_ := tbm 624 (by decide +kernel) (by decide +kernel)
theorem ml_L_60 : Cond.methodLink R_law 60 yX12_sawn ∈ TB_ := tbm 1440 (by decide +kernel) (by decide +kernel)
theorem ml_L_61 : Cond.methodLink R_law 61 yX11_costs ∈ TB_ := tbm 641 (by decide +kernel) (by decide +kernel)
theorem ml_L_64 : Cond.methodLink R_law 64 yX12_costs ∈ TB_ := tbm 1449 (by decide +kernel) (by decide +kernel)
theorem ml_L_65 : Cond.methodLink R_law 65 yX11_undo ∈ TB_ := tbm 645 (by decide +kernel) (by decide +kernel)
theorem ml_L_68 : Cond.methodLink R_law 68 yX12_undo ∈ TB_ := tbm 1368 (by decide +kernel) (by decide +kernel)
theorem ml_L_69 : Cond.methodLink R_law 69 yX11_world ∈ TB_ := tbm 653 (by decide +kernel) (by decide +kernel)
theorem ml_L_72 : Cond.methodLink R_law 72 yX12_world ∈ TB_ := tbm 1453 (by decide +kernel) (by decide +kernel)
theorem ml_L_73 : Cond.methodLink R_law 73 yX11_doubt ∈ TB_ := tbm 657 (by decide +kernel) (by decide +kernel)
theorem ml_L_77 : Cond.methodLink R_law 77 yX12_doubt ∈ TB_ := tbm 1457 (by decide +kernel) (by decide +kernel)
theorem ml_L_78 : Cond.methodLink R_law 78 yX11_choose ∈ TB_ := tbm 661 (by decide +kernel) (by decide +kernel)
theorem ml_L_81 : Cond.methodLink R_law 81 yX12_choose ∈ TB_ := tbm 1461 (by decide +kernel) (by decide +kernel)
theorem ml_L_82 : Cond.methodLink R_law 82 yX11_store ∈ TB_ := tbm 695 (by decide +kernel) (by decide +kernel)
theorem ml_L_85 : Cond.methodLink R_law 85 yX12_store ∈ TB_ := tbm 1466 (by decide +kernel) (by decide +kernel)
theorem ml_L_86 : Cond.methodLink R_law 86 yX11_stored ∈ TB_ := tbm 703 (by decide +kernel) (by decide +kernel)
theorem ml_L_89 : Cond.methodLink R_law 89 yX12_stored ∈ TB_ := tbm 1471 (by decide +kernel) (by decide +kernel)
theorem ml_L_90 : Cond.methodLink R_law 90 yX11_age ∈ TB_ := tbm 716 (by decide +kernel) (by decide +kernel)
theorem ml_L_93 : Cond.methodLink R_law 93 yX12_age ∈ TB_ := tbm 1480 (by decide +kernel) (by decide +kernel)
theorem ml_L_94 : Cond.methodLink R_law 94 yX11_order ∈ TB_ := tbm 720 (by decide +kernel) (by decide +kernel)
theorem ml_L_97 : Cond.methodLink R_law 97 yX12_order ∈ TB_ := tbm 1484 (by decide +kernel) (by decide +kernel)
theorem ml_L_98 : Cond.methodLink R_law 98 yX11_filled ∈ TB_ := tbm 728 (by decide +kernel) (by decide +kernel)
theorem ml_L_101 : Cond.methodLink R_law 101 yX12_filled ∈ TB_ := tbm 1489 (by decide +kernel) (by decide +kernel)
theorem ml_L_102 : Cond.methodLink R_law 102 yX11_deliver ∈ TB_ := tbm 761 (by decide +kernel) (by decide +kernel)
theorem ml_L_105 : Cond.methodLink R_law 105 yX12_deliver ∈ TB_ := tbm 1498 (by decide +kernel) (by decide +kernel)
theorem ml_L_106 : Cond.methodLink R_law 106 yX11_gains ∈ TB_ := tbm 775 (by decide +kernel) (by decide +kernel)
theorem ml_L_109 : Cond.methodLink R_law 109 yX12_gains ∈ TB_ := tbm 1502 (by decide +kernel) (by decide +kernel)
theorem ml_L_110 : Cond.methodLink R_law 110 yX11_pipe ∈ TB_ := tbm 780 (by decide +kernel) (by decide +kernel)
theorem ml_L_114 : Cond.methodLink R_law 114 yX12_pipe ∈ TB_ := tbm 1507 (by decide +kernel) (by decide +kernel)
theorem ml_L_115 : Cond.methodLink R_law 115 yX11_told ∈ TB_ := tbm 794 (by decide +kernel) (by decide +kernel)
theorem ml_L_118 : Cond.methodLink R_law 118 yX12_told ∈ TB_ := tbm 1521 (by decide +kernel) (by decide +kernel)
theorem kl_L_1130 : Cond.constantLong R_law 119 (4294967295 : Int64) ∈ lw_tbl := (List.mem_filter.mp (show Cond.constantLong R_law 119 (4294967295 : Int64) ∈ TB_ from tbm 1672 (by decide +kernel) (by decide +kernel))).1
theorem ml_L_121 : Cond.methodLink R_law 121 yX11_feed ∈ TB_ := tbm 811 (by decide +kernel) (by decide +kernel)
theorem kl_L_1154 : Cond.constantLong R_law 119 (4294967295 : Int64) ∈ lw_tbl := (List.mem_filter.mp (show Cond.constantLong R_law 119 (4294967295 : Int64) ∈ TB_ from tbm 1672 (by decide +kernel) (by decide +kernel))).1
theorem ml_L_125 : Cond.methodLink R_law 125 yX12_feed ∈ TB_ := tbm 1533 (by decide +kernel) (by decide +kernel)
theorem ml_L_126 : Cond.methodLink R_law 126 yX11_end ∈ TB_ := tbm 820 (by decide +kernel) (by decide +kernel)
theorem ml_L_129 : Cond.methodLink R_law 129 yX12_end ∈ TB_ := tbm 1537 (by decide +kernel) (by decide +kernel)
theorem ml_L_130 : Cond.methodLink R_law 130 yX11_laws ∈ TB_ := tbm 824 (by decide +kernel) (by decide +kernel)
theorem ml_L_133 : Cond.methodLink R_law 133 yX12_laws ∈ TB_ := tbm 1541 (by decide +kernel) (by decide +kernel)
theorem ml_L_134 : Cond.methodLink R_law 134 yX11_fault ∈ TB_ := tbm 989 (by decide +kernel) (by decide +kernel)
theorem ml_L_137 : Cond.methodLink R_law 137 yX12_fault ∈ TB_ := tbm 1603 (by decide +kernel) (by decide +kernel)
theorem ml_L_138 : Cond.methodLink R_law 138 yX11_stamp ∈ TB_ := tbm 993 (by decide +kernel) (by decide +kernel)
theorem ml_L_141 : Cond.methodLink R_law 141 yX12_stamp ∈ TB_ := tbm 1607 (by decide +kernel) (by decide +kernel)
theorem ml_L_142 : Cond.methodLink R_law 142 yX11_name ∈ TB_ := tbm 997 (by decide +kernel) (by decide +kernel)
theorem ml_L_145 : Cond.methodLink R_law 145 yX12_name ∈ TB_ := tbm 1612 (by decide +kernel) (by decide +kernel)
theorem ml_L_146 : Cond.methodLink R_law 146 yX11_years ∈ TB_ := tbm 1001 (by decide +kernel) (by decide +kernel)
theorem ml_L_149 : Cond.methodLink R_law 149 yX12_years ∈ TB_ := tbm 1616 (by decide +kernel) (by decide +kernel)
theorem ml_L_150 : Cond.methodLink R_law 150 yX11_dated ∈ TB_ := tbm 1025 (by decide +kernel) (by decide +kernel)
theorem ml_L_153 : Cond.methodLink R_law 153 yX12_dated ∈ TB_ := tbm 1624 (by decide +kernel) (by decide +kernel)
theorem ml_L_154 : Cond.methodLink R_law 154 yX11_lot ∈ TB_ := tbm 1034 (by decide +kernel) (by decide +kernel)
theorem ml_L_157 : Cond.methodLink R_law 157 yX12_lot ∈ TB_ := tbm 1630 (by decide +kernel) (by decide +kernel)
theorem ml_L_158 : Cond.methodLink R_law 158 yX11_worst ∈ TB_ := tbm 1063 (by decide +kernel) (by decide +kernel)
theorem ml_L_161 : Cond.methodLink R_law 161 yX12_worst ∈ TB_ := tbm 1645 (by decide +kernel) (by decide +kernel)
theorem ml_L_162 : Cond.methodLink R_law 162 yX11_sheet ∈ TB_ := tbm 1071 (by decide +kernel) (by decide +kernel)
theorem ml_L_165 : Cond.methodLink R_law 165 yX12_sheet ∈ TB_ := tbm 1649 (by decide +kernel) (by decide +kernel)
theorem ml_L_166 : Cond.methodLink R_law 166 yX11_lay ∈ TB_ := tbm 1079 (by decide +kernel) (by decide +kernel)
theorem ml_L_169 : Cond.methodLink R_law 169 yX12_lay ∈ TB_ := tbm 1656 (by decide +kernel) (by decide +kernel)
theorem ml_L_170 : Cond.methodLink R_law 170 yX11_draw ∈ TB_ := tbm 1096 (by decide +kernel) (by decide +kernel)
theorem ml_L_173 : Cond.methodLink R_law 173 yX12_draw ∈ TB_ := tbm 1660 (by decide +kernel) (by decide +kernel)
theorem ml_L_174 : Cond.methodLink R_law 174 yX11_count ∈ TB_ := tbm 1114 (by decide +kernel) (by decide +kernel)
theorem ml_L_177 : Cond.methodLink R_law 177 yX12_count ∈ TB_ := tbm 1668 (by decide +kernel) (by decide +kernel)
def Sim_burl (Rel : St → St → Prop) : Prop := ∀ (SX SM : St) (a1 : Int32) (a2 : Int32), Rel SX SM → ∃ (r : Int32) (S1 : St) (S2 : St), fX11_burl SX a1 a2 = some (r, S1) ∧ fX12_burl SM a1 a2 = some (r, S2) ∧ Rel S1 S2
set_option maxRecDepth 100000 in
set_option maxHeartbeats 4000000 in
theorem law_burl {e : Env} {p : Program} {s : State} {m : MethodId} {below : List Frame} {meth : Method} {c : Code} {b L : Nat} {xs : Nat → Int32} {G1 G2 : Gx} {SX SM : St} {i3 : Int32} {Rel : St → St → Prop} (C : Lx_ p s m meth c b L xs G1 G2) (hin1 : vp_in (i3 + 1) L) (hin2 : vp_in (i3 + 2) L) (hin3 : vp_in (i3 + 3) L) (hin4 : vp_in (i3 + 4) L) (hin5 : vp_in (i3 + 5) L) (hin6 : vp_in (i3 + 6) L) (hin7 : vp_in (i3 + 7) L) (hs : Sim_burl Rel) (hRel : Rel SX SM) (ih : ∀ S1 S2, Rel S1 S2 → RLw e p s m below meth c b G1 G2 1536 [(0, .ref b), (1, .ref (ad_ G1 0)), (2, .ref (ad_ G2 0)), (3, .int i3)] [] S1 S2) : RLw e p s m below meth c b G1 G2 200 [(0, .ref b), (1, .ref (ad_ G1 0)), (2, .ref (ad_ G2 0)), (3, .int i3)] [] SX SM := by
  refine q_aload_n C 1 dL_law_200 rfl rfl ?_
  refine q_aload_n C 0 dL_law_201 rfl rfl ?_
  refine q_iload_n C 3 dL_law_202 rfl rfl ?_
  refine q_iconst (v := 1) C dL_law_203 rfl ?_
  refine q_iadd C dL_law_204 ?_
  refine q_sld C hin1 rfl dL_law_205 ?_
  refine q_aload_n C 0 dL_law_206 rfl rfl ?_
  refine q_iload_n C 3 dL_law_207 rfl rfl ?_
  refine q_iconst (v := 2) C dL_law_208 rfl ?_
  refine q_iadd C dL_law_209 ?_
  refine q_sld C hin2 rfl dL_law_210 ?_
  obtain ⟨r, S1, S2, hf1, hf2, hR⟩ := hs _ _ (xs (i3 + 1).toNatClampNeg) (xs (i3 + 2).toNatClampNeg) hRel
  refine q_callX (rest := []) C (by decide) (mX11_burl hf1) rfl cb_X11_burl ml_L_13 im_X11_burl se_X11_burl rfl rfl (Nat.le_of_ble_eq_true rfl) dL_law_211 ?_
  refine q_aload_n C 2 dL_law_214 rfl rfl ?_
  refine q_aload_n C 0 dL_law_215 rfl rfl ?_
  refine q_iload_n C 3 dL_law_216 rfl rfl ?_
  refine q_iconst (v := 1) C dL_law_217 rfl ?_
  refine q_iadd C dL_law_218 ?_
  refine q_sld C hin1 rfl dL_law_219 ?_
  refine q_aload_n C 0 dL_law_220 rfl rfl ?_
  refine q_iload_n C 3 dL_law_221 rfl rfl ?_
  refine q_iconst (v := 2) C dL_law_222 rfl ?_
  refine q_iadd C dL_law_223 ?_
  refine q_sld C hin2 rfl dL_law_224 ?_
  refine q_callM (rest := [.int r]) C (by decide) (mX12_burl hf2) rfl cb_X12_burl ml_L_17 im_X12_burl se_X12_burl rfl rfl (Nat.le_of_ble_eq_true rfl) dL_law_225 ?_
  refine q_icmp_eq C 1536 dL_law_228 (by decide) ?_
  exact ih _ _ hR
def Sim_crack (Rel : St → St → Prop) : Prop := ∀ (SX SM : St) (a1 : Int32) (a2 : Int32) (a3 : Int32) (_ : a3 = 0 ∨ a3 = 1), Rel SX SM → ∃ (r : Int32) (S1 : St) (S2 : St), fX11_crack SX a1 a2 a3 = some (r, S1) ∧ fX12_crack SM a1 a2 a3 = some (r, S2) ∧ Rel S1 S2
set_option maxRecDepth 100000 in
set_option maxHeartbeats 4000000 in
theorem law_crack {e : Env} {p : Program} {s : State} {m : MethodId} {below : List Frame} {meth : Method} {c : Code} {b L : Nat} {xs : Nat → Int32} {G1 G2 : Gx} {SX SM : St} {i3 : Int32} {Rel : St → St → Prop} (C : Lx_ p s m meth c b L xs G1 G2) (hin1 : vp_in (i3 + 1) L) (hin2 : vp_in (i3 + 2) L) (hin3 : vp_in (i3 + 3) L) (hin4 : vp_in (i3 + 4) L) (hin5 : vp_in (i3 + 5) L) (hin6 : vp_in (i3 + 6) L) (hin7 : vp_in (i3 + 7) L) (hs : Sim_crack Rel) (hRel : Rel SX SM) (ih : ∀ S1 S2, Rel S1 S2 → RLw e p s m below meth c b G1 G2 1536 [(0, .ref b), (1, .ref (ad_ G1 0)), (2, .ref (ad_ G2 0)), (3, .int i3)] [] S1 S2) : RLw e p s m below meth c b G1 G2 233 [(0, .ref b), (1, .ref (ad_ G1 0)), (2, .ref (ad_ G2 0)), (3, .int i3)] [] SX SM := by
  refine q_aload_n C 1 dL_law_233 rfl rfl ?_
  refine q_aload_n C 0 dL_law_234 rfl rfl ?_
  refine q_iload_n C 3 dL_law_235 rfl rfl ?_
  refine q_iconst (v := 1) C dL_law_236 rfl ?_
  refine q_iadd C dL_law_237 ?_
  refine q_sld C hin1 rfl dL_law_238 ?_
  refine q_aload_n C 0 dL_law_239 rfl rfl ?_
  refine q_iload_n C 3 dL_law_240 rfl rfl ?_
  refine q_iconst (v := 2) C dL_law_241 rfl ?_
  refine q_iadd C dL_law_242 ?_
  refine q_sld C hin2 rfl dL_law_243 ?_
  refine q_aload_n C 0 dL_law_244 rfl rfl ?_
  refine q_iload_n C 3 dL_law_245 rfl rfl ?_
  refine q_iconst (v := 3) C dL_law_246 rfl ?_
  refine q_iadd C dL_law_247 ?_
  refine q_sld C hin3 rfl dL_law_248 ?_
  refine q_if_eq C 256 dL_law_249 (by decide) (fun c0 => ?_) (fun c0 => ?_)
  · refine q_iconst (v := 0) C dL_law_256 rfl ?_
    obtain ⟨r, S1, S2, hf1, hf2, hR⟩ := hs _ _ (xs (i3 + 1).toNatClampNeg) (xs (i3 + 2).toNatClampNeg) 0 (Or.inl rfl) hRel
    refine q_callX (rest := []) C (by decide) (mX11_crack hf1) rfl cb_X11_crack ml_L_18 im_X11_crack se_X11_crack rfl rfl (Nat.le_of_ble_eq_true rfl) dL_law_257 ?_
    refine q_aload_n C 2 dL_law_260 rfl rfl ?_
    refine q_aload_n C 0 dL_law_261 rfl rfl ?_
    refine q_iload_n C 3 dL_law_262 rfl rfl ?_
    refine q_iconst (v := 1) C dL_law_263 rfl ?_
    refine q_iadd C dL_law_264 ?_
    refine q_sld C hin1 rfl dL_law_265 ?_
    refine q_aload_n C 0 dL_law_266 rfl rfl ?_
    refine q_iload_n C 3 dL_law_267 rfl rfl ?_
    refine q_iconst (v := 2) C dL_law_268 rfl ?_
    refine q_iadd C dL_law_269 ?_
    refine q_sld C hin2 rfl dL_law_270 ?_
    refine q_aload_n C 0 dL_law_271 rfl rfl ?_
    refine q_iload_n C 3 dL_law_272 rfl rfl ?_
    refine q_iconst (v := 3) C dL_law_273 rfl ?_
    refine q_iadd C dL_law_274 ?_
    refine q_sld C hin3 rfl dL_law_275 ?_
    refine q_if_eq C 283 dL_law_276 (by decide) (fun _ => ?_) (fun z => absurd c0 z)
    refine q_iconst (v := 0) C dL_law_283 rfl ?_
    refine q_callM (rest := [.int r]) C (by decide) (mX12_crack hf2) rfl cb_X12_crack ml_L_22 im_X12_crack se_X12_crack rfl rfl (Nat.le_of_ble_eq_true rfl) dL_law_284 ?_
    refine q_icmp_eq C 1536 dL_law_287 (by decide) ?_
    exact ih _ _ hR
  · refine q_iconst (v := 1) C dL_law_252 rfl ?_
    refine q_goto C 257 dL_law_253 (by decide) ?_
    obtain ⟨r, S1, S2, hf1, hf2, hR⟩ := hs _ _ (xs (i3 + 1).toNatClampNeg) (xs (i3 + 2).toNatClampNeg) 1 (Or.inr rfl) hRel
    refine q_callX (rest := []) C (by decide) (mX11_crack hf1) rfl cb_X11_crack ml_L_18 im_X11_crack se_X11_crack rfl rfl (Nat.le_of_ble_eq_true rfl) dL_law_257 ?_
    refine q_aload_n C 2 dL_law_260 rfl rfl ?_
    refine q_aload_n C 0 dL_law_261 rfl rfl ?_
    refine q_iload_n C 3 dL_law_262 rfl rfl ?_
    refine q_iconst (v := 1) C dL_law_263 rfl ?_
    refine q_iadd C dL_law_264 ?_
    refine q_sld C hin1 rfl dL_law_265 ?_
    refine q_aload_n C 0 dL_law_266 rfl rfl ?_
    refine q_iload_n C 3 dL_law_267 rfl rfl ?_
    refine q_iconst (v := 2) C dL_law_268 rfl ?_
    refine q_iadd C dL_law_269 ?_
    refine q_sld C hin2 rfl dL_law_270 ?_
    refine q_aload_n C 0 dL_law_271 rfl rfl ?_
    refine q_iload_n C 3 dL_law_272 rfl rfl ?_
    refine q_iconst (v := 3) C dL_law_273 rfl ?_
    refine q_iadd C dL_law_274 ?_
    refine q_sld C hin3 rfl dL_law_275 ?_
    refine q_if_eq C 283 dL_law_276 (by decide) (fun z => absurd z c0) (fun _ => ?_)
    refine q_iconst (v := 1) C dL_law_279 rfl ?_
    refine q_goto C 284 dL_law_280 (by decide) ?_
    refine q_callM (rest := [.int r]) C (by decide) (mX12_crack hf2) rfl cb_X12_crack ml_L_22 im_X12_crack se_X12_crack rfl rfl (Nat.le_of_ble_eq_true rfl) dL_law_284 ?_
    refine q_icmp_eq C 1536 dL_law_287 (by decide) ?_
    exact ih _ _ hR
def Sim_grain (Rel : St → St → Prop) : Prop := ∀ (SX SM : St) (a1 : Int32) (a2 : Int32) (a3 : Int32), Rel SX SM → ∃ (r : Int32) (S1 : St) (S2 : St), fX11_grain SX a1 a2 a3 = some (r, S1) ∧ fX12_grain SM a1 a2 a3 = some (r, S2) ∧ Rel S1 S2
set_option maxRecDepth 100000 in
set_option maxHeartbeats 4000000 in
theorem law_grain {e : Env} {p : Program} {s : State} {m : MethodId} {below : List Frame} {meth : Method} {c : Code} {b L : Nat} {xs : Nat → Int32} {G1 G2 : Gx} {SX SM : St} {i3 : Int32} {Rel : St → St → Prop} (C : Lx_ p s m meth c b L xs G1 G2) (hin1 : vp_in (i3 + 1) L) (hin2 : vp_in (i3 + 2) L) (hin3 : vp_in (i3 + 3) L) (hin4 : vp_in (i3 + 4) L) (hin5 : vp_in (i3 + 5) L) (hin6 : vp_in (i3 + 6) L) (hin7 : vp_in (i3 + 7) L) (hs : Sim_grain Rel) (hRel : Rel SX SM) (ih : ∀ S1 S2, Rel S1 S2 → RLw e p s m below meth c b G1 G2 1536 [(0, .ref b), (1, .ref (ad_ G1 0)), (2, .ref (ad_ G2 0)), (3, .int i3)] [] S1 S2) : RLw e p s m below meth c b G1 G2 292 [(0, .ref b), (1, .ref (ad_ G1 0)), (2, .ref (ad_ G2 0)), (3, .int i3)] [] SX SM := by
  refine q_aload_n C 1 dL_law_292 rfl rfl ?_
  refine q_aload_n C 0 dL_law_293 rfl rfl ?_
  refine q_iload_n C 3 dL_law_294 rfl rfl ?_
  refine q_iconst (v := 1) C dL_law_295 rfl ?_
  refine q_iadd C dL_law_296 ?_
  refine q_sld C hin1 rfl dL_law_297 ?_
  refine q_aload_n C 0 dL_law_298 rfl rfl ?_
  refine q_iload_n C 3 dL_law_299 rfl rfl ?_
  refine q_iconst (v := 2) C dL_law_300 rfl ?_
  refine q_iadd C dL_law_301 ?_
  refine q_sld C hin2 rfl dL_law_302 ?_
  refine q_aload_n C 0 dL_law_303 rfl rfl ?_
  refine q_iload_n C 3 dL_law_304 rfl rfl ?_
  refine q_iconst (v := 3) C dL_law_305 rfl ?_
  refine q_iadd C dL_law_306 ?_
  refine q_sld C hin3 rfl dL_law_307 ?_
  obtain ⟨r, S1, S2, hf1, hf2, hR⟩ := hs _ _ (xs (i3 + 1).toNatClampNeg) (xs (i3 + 2).toNatClampNeg) (xs (i3 + 3).toNatClampNeg) hRel
  refine q_callX (rest := []) C (by decide) (mX11_grain hf1) rfl cb_X11_grain ml_L_23 im_X11_grain se_X11_grain rfl rfl (Nat.le_of_ble_eq_true rfl) dL_law_308 ?_
  refine q_aload_n C 2 dL_law_311 rfl rfl ?_
  refine q_aload_n C 0 dL_law_312 rfl rfl ?_
  refine q_iload_n C 3 dL_law_313 rfl rfl ?_
  refine q_iconst (v := 1) C dL_law_314 rfl ?_
  refine q_iadd C dL_law_315 ?_
  refine q_sld C hin1 rfl dL_law_316 ?_
  refine q_aload_n C 0 dL_law_317 rfl rfl ?_
  refine q_iload_n C 3 dL_law_318 rfl rfl ?_
  refine q_iconst (v := 2) C dL_law_319 rfl ?_
  refine q_iadd C dL_law_320 ?_
  refine q_sld C hin2 rfl dL_law_321 ?_
  refine q_aload_n C 0 dL_law_322 rfl rfl ?_
  refine q_iload_n C 3 dL_law_323 rfl rfl ?_
  refine q_iconst (v := 3) C dL_law_324 rfl ?_
  refine q_iadd C dL_law_325 ?_
  refine q_sld C hin3 rfl dL_law_326 ?_
  refine q_callM (rest := [.int r]) C (by decide) (mX12_grain hf2) rfl cb_X12_grain ml_L_27 im_X12_grain se_X12_grain rfl rfl (Nat.le_of_ble_eq_true rfl) dL_law_327 ?_
  refine q_icmp_eq C 1536 dL_law_330 (by decide) ?_
  exact ih _ _ hR
def Sim_shape (Rel : St → St → Prop) : Prop := ∀ (SX SM : St) (a1 : Int32) (a2 : Int32) (a3 : Int32) (a4 : Int32) (a5 : Int32) (_ : a5 = 0 ∨ a5 = 1), Rel SX SM → ∃ (r : Int32) (S1 : St) (S2 : St), fX11_shape SX a1 a2 a3 a4 a5 = some (r, S1) ∧ fX12_shape SM a1 a2 a3 a4 a5 = some (r, S2) ∧ Rel S1 S2
set_option maxRecDepth 100000 in
set_option maxHeartbeats 4000000 in
theorem law_shape {e : Env} {p : Program} {s : State} {m : MethodId} {below : List Frame} {meth : Method} {c : Code} {b L : Nat} {xs : Nat → Int32} {G1 G2 : Gx} {SX SM : St} {i3 : Int32} {Rel : St → St → Prop} (C : Lx_ p s m meth c b L xs G1 G2) (hin1 : vp_in (i3 + 1) L) (hin2 : vp_in (i3 + 2) L) (hin3 : vp_in (i3 + 3) L) (hin4 : vp_in (i3 + 4) L) (hin5 : vp_in (i3 + 5) L) (hin6 : vp_in (i3 + 6) L) (hin7 : vp_in (i3 + 7) L) (hs : Sim_shape Rel) (hRel : Rel SX SM) (ih : ∀ S1 S2, Rel S1 S2 → RLw e p s m below meth c b G1 G2 1536 [(0, .ref b), (1, .ref (ad_ G1 0)), (2, .ref (ad_ G2 0)), (3, .int i3)] [] S1 S2) : RLw e p s m below meth c b G1 G2 335 [(0, .ref b), (1, .ref (ad_ G1 0)), (2, .ref (ad_ G2 0)), (3, .int i3)] [] SX SM := by
  refine q_aload_n C 1 dL_law_335 rfl rfl ?_
  refine q_aload_n C 0 dL_law_336 rfl rfl ?_
  refine q_iload_n C 3 dL_law_337 rfl rfl ?_
  refine q_iconst (v := 1) C dL_law_338 rfl ?_
  refine q_iadd C dL_law_339 ?_
  refine q_sld C hin1 rfl dL_law_340 ?_
  refine q_aload_n C 0 dL_law_341 rfl rfl ?_
  refine q_iload_n C 3 dL_law_342 rfl rfl ?_
  refine q_iconst (v := 2) C dL_law_343 rfl ?_
  refine q_iadd C dL_law_344 ?_
  refine q_sld C hin2 rfl dL_law_345 ?_
  refine q_aload_n C 0 dL_law_346 rfl rfl ?_
  refine q_iload_n C 3 dL_law_347 rfl rfl ?_
  refine q_iconst (v := 3) C dL_law_348 rfl ?_
  refine q_iadd C dL_law_349 ?_
  refine q_sld C hin3 rfl dL_law_350 ?_
  refine q_aload_n C 0 dL_law_351 rfl rfl ?_
  refine q_iload_n C 3 dL_law_352 rfl rfl ?_
  refine q_iconst (v := 4) C dL_law_353 rfl ?_
  refine q_iadd C dL_law_354 ?_
  refine q_sld C hin4 rfl dL_law_355 ?_
  refine q_aload_n C 0 dL_law_356 rfl rfl ?_
  refine q_iload_n C 3 dL_law_357 rfl rfl ?_
  refine q_iconst (v := 5) C dL_law_358 rfl ?_
  refine q_iadd C dL_law_359 ?_
  refine q_sld C hin5 rfl dL_law_360 ?_
  refine q_if_eq C 368 dL_law_361 (by decide) (fun c0 => ?_) (fun c0 => ?_)
  · refine q_iconst (v := 0) C dL_law_368 rfl ?_
    obtain ⟨r, S1, S2, hf1, hf2, hR⟩ := hs _ _ (xs (i3 + 1).toNatClampNeg) (xs (i3 + 2).toNatClampNeg) (xs (i3 + 3).toNatClampNeg) (xs (i3 + 4).toNatClampNeg) 0 (Or.inl rfl) hRel
    refine q_callX (rest := []) C (by decide) (mX11_shape hf1) rfl cb_X11_shape ml_L_28 im_X11_shape se_X11_shape rfl rfl (Nat.le_of_ble_eq_true rfl) dL_law_369 ?_
    refine q_aload_n C 2 dL_law_372 rfl rfl ?_
    refine q_aload_n C 0 dL_law_373 rfl rfl ?_
    refine q_iload_n C 3 dL_law_374 rfl rfl ?_
    refine q_iconst (v := 1) C dL_law_375 rfl ?_
    refine q_iadd C dL_law_376 ?_
    refine q_sld C hin1 rfl dL_law_377 ?_
    refine q_aload_n C 0 dL_law_378 rfl rfl ?_
    refine q_iload_n C 3 dL_law_379 rfl rfl ?_
    refine q_iconst (v := 2) C dL_law_380 rfl ?_
    refine q_iadd C dL_law_381 ?_
    refine q_sld C hin2 rfl dL_law_382 ?_
    refine q_aload_n C 0 dL_law_383 rfl rfl ?_
    refine q_iload_n C 3 dL_law_384 rfl rfl ?_
    refine q_iconst (v := 3) C dL_law_385 rfl ?_
    refine q_iadd C dL_law_386 ?_
    refine q_sld C hin3 rfl dL_law_387 ?_
    refine q_aload_n C 0 dL_law_388 rfl rfl ?_
    refine q_iload_n C 3 dL_law_389 rfl rfl ?_
    refine q_iconst (v := 4) C dL_law_390 rfl ?_
    refine q_iadd C dL_law_391 ?_
    refine q_sld C hin4 rfl dL_law_392 ?_
    refine q_aload_n C 0 dL_law_393 rfl rfl ?_
    refine q_iload_n C 3 dL_law_394 rfl rfl ?_
    refine q_iconst (v := 5) C dL_law_395 rfl ?_
    refine q_iadd C dL_law_396 ?_
    refine q_sld C hin5 rfl dL_law_397 ?_
    refine q_if_eq C 405 dL_law_398 (by decide) (fun _ => ?_) (fun z => absurd c0 z)
    refine q_iconst (v := 0) C dL_law_405 rfl ?_
    refine q_callM (rest := [.int r]) C (by decide) (mX12_shape hf2) rfl cb_X12_shape ml_L_32 im_X12_shape se_X12_shape rfl rfl (Nat.le_of_ble_eq_true rfl) dL_law_406 ?_
    refine q_icmp_eq C 1536 dL_law_409 (by decide) ?_
    exact ih _ _ hR
  · refine q_iconst (v := 1) C dL_law_364 rfl ?_
    refine q_goto C 369 dL_law_365 (by decide) ?_
    obtain ⟨r, S1, S2, hf1, hf2, hR⟩ := hs _ _ (xs (i3 + 1).toNatClampNeg) (xs (i3 + 2).toNatClampNeg) (xs (i3 + 3).toNatClampNeg) (xs (i3 + 4).toNatClampNeg) 1 (Or.inr rfl) hRel
    refine q_callX (rest := []) C (by decide) (mX11_shape hf1) rfl cb_X11_shape ml_L_28 im_X11_shape se_X11_shape rfl rfl (Nat.le_of_ble_eq_true rfl) dL_law_369 ?_
    refine q_aload_n C 2 dL_law_372 rfl rfl ?_
    refine q_aload_n C 0 dL_law_373 rfl rfl ?_
    refine q_iload_n C 3 dL_law_374 rfl rfl ?_
    refine q_iconst (v := 1) C dL_law_375 rfl ?_
    refine q_iadd C dL_law_376 ?_
    refine q_sld C hin1 rfl dL_law_377 ?_
    refine q_aload_n C 0 dL_law_378 rfl rfl ?_
    refine q_iload_n C 3 dL_law_379 rfl rfl ?_
    refine q_iconst (v := 2) C dL_law_380 rfl ?_
    refine q_iadd C dL_law_381 ?_
    refine q_sld C hin2 rfl dL_law_382 ?_
    refine q_aload_n C 0 dL_law_383 rfl rfl ?_
    refine q_iload_n C 3 dL_law_384 rfl rfl ?_
    refine q_iconst (v := 3) C dL_law_385 rfl ?_
    refine q_iadd C dL_law_386 ?_
    refine q_sld C hin3 rfl dL_law_387 ?_
    refine q_aload_n C 0 dL_law_388 rfl rfl ?_
    refine q_iload_n C 3 dL_law_389 rfl rfl ?_
    refine q_iconst (v := 4) C dL_law_390 rfl ?_
    refine q_iadd C dL_law_391 ?_
    refine q_sld C hin4 rfl dL_law_392 ?_
    refine q_aload_n C 0 dL_law_393 rfl rfl ?_
    refine q_iload_n C 3 dL_law_394 rfl rfl ?_
    refine q_iconst (v := 5) C dL_law_395 rfl ?_
    refine q_iadd C dL_law_396 ?_
    refine q_sld C hin5 rfl dL_law_397 ?_
    refine q_if_eq C 405 dL_law_398 (by decide) (fun z => absurd z c0) (fun _ => ?_)
    refine q_iconst (v := 1) C dL_law_401 rfl ?_
    refine q_goto C 406 dL_law_402 (by decide) ?_
    refine q_callM (rest := [.int r]) C (by decide) (mX12_shape hf2) rfl cb_X12_shape ml_L_32 im_X12_shape se_X12_shape rfl rfl (Nat.le_of_ble_eq_true rfl) dL_law_406 ?_
    refine q_icmp_eq C 1536 dL_law_409 (by decide) ?_
    exact ih _ _ hR
def Sim_drop (Rel : St → St → Prop) : Prop := ∀ (SX SM : St), Rel SX SM → ∃ (r : Int32) (S1 : St) (S2 : St), fX11_drop SX  = some (r, S1) ∧ fX12_drop SM  = some (r, S2) ∧ Rel S1 S2
set_option maxRecDepth 100000 in
set_option maxHeartbeats 4000000 in
theorem law_drop {e : Env} {p : Program} {s : State} {m : MethodId} {below : List Frame} {meth : Method} {c : Code} {b L : Nat} {xs : Nat → Int32} {G1 G2 : Gx} {SX SM : St} {i3 : Int32} {Rel : St → St → Prop} (C : Lx_ p s m meth c b L xs G1 G2) (hin1 : vp_in (i3 + 1) L) (hin2 : vp_in (i3 + 2) L) (hin3 : vp_in (i3 + 3) L) (hin4 : vp_in (i3 + 4) L) (hin5 : vp_in (i3 + 5) L) (hin6 : vp_in (i3 + 6) L) (hin7 : vp_in (i3 + 7) L) (hs : Sim_drop Rel) (hRel : Rel SX SM) (ih : ∀ S1 S2, Rel S1 S2 → RLw e p s m below meth c b G1 G2 1536 [(0, .ref b), (1, .ref (ad_ G1 0)), (2, .ref (ad_ G2 0)), (3, .int i3)] [] S1 S2) : RLw e p s m below meth c b G1 G2 414 [(0, .ref b), (1, .ref (ad_ G1 0)), (2, .ref (ad_ G2 0)), (3, .int i3)] [] SX SM := by
  refine q_aload_n C 1 dL_law_414 rfl rfl ?_
  obtain ⟨r, S1, S2, hf1, hf2, hR⟩ := hs _ _  hRel
  refine q_callX (rest := []) C (by decide) (mX11_drop hf1) rfl cb_X11_drop ml_L_33 im_X11_drop se_X11_drop rfl rfl (Nat.le_of_ble_eq_true rfl) dL_law_415 ?_
  refine q_aload_n C 2 dL_law_418 rfl rfl ?_
  refine q_callM (rest := [.int r]) C (by decide) (mX12_drop hf2) rfl cb_X12_drop ml_L_37 im_X12_drop se_X12_drop rfl rfl (Nat.le_of_ble_eq_true rfl) dL_law_419 ?_
  refine q_icmp_eq C 1536 dL_law_422 (by decide) ?_
  exact ih _ _ hR
def Sim_fits (Rel : St → St → Prop) : Prop := ∀ (SX SM : St) (a1 : Int32) (a2 : Int32) (a3 : Int32) (a4 : Int32) (a5 : Int32), Rel SX SM → ∃ (r : Int32), fX11_fits SX a1 a2 a3 a4 a5 = some r ∧ fX12_fits SM a1 a2 a3 a4 a5 = some r ∧ Rel SX SM
set_option maxRecDepth 100000 in
set_option maxHeartbeats 4000000 in
theorem law_fits {e : Env} {p : Program} {s : State} {m : MethodId} {below : List Frame} {meth : Method} {c : Code} {b L : Nat} {xs : Nat → Int32} {G1 G2 : Gx} {SX SM : St} {i3 : Int32} {Rel : St → St → Prop} (C : Lx_ p s m meth c b L xs G1 G2) (hin1 : vp_in (i3 + 1) L) (hin2 : vp_in (i3 + 2) L) (hin3 : vp_in (i3 + 3) L) (hin4 : vp_in (i3 + 4) L) (hin5 : vp_in (i3 + 5) L) (hin6 : vp_in (i3 + 6) L) (hin7 : vp_in (i3 + 7) L) (hs : Sim_fits Rel) (hRel : Rel SX SM) (ih : ∀ S1 S2, Rel S1 S2 → RLw e p s m below meth c b G1 G2 1536 [(0, .ref b), (1, .ref (ad_ G1 0)), (2, .ref (ad_ G2 0)), (3, .int i3)] [] S1 S2) : RLw e p s m below meth c b G1 G2 427 [(0, .ref b), (1, .ref (ad_ G1 0)), (2, .ref (ad_ G2 0)), (3, .int i3)] [] SX SM := by
  refine q_aload_n C 1 dL_law_427 rfl rfl ?_
  refine q_aload_n C 0 dL_law_428 rfl rfl ?_
  refine q_iload_n C 3 dL_law_429 rfl rfl ?_
  refine q_iconst (v := 1) C dL_law_430 rfl ?_
  refine q_iadd C dL_law_431 ?_
  refine q_sld C hin1 rfl dL_law_432 ?_
  refine q_aload_n C 0 dL_law_433 rfl rfl ?_
  refine q_iload_n C 3 dL_law_434 rfl rfl ?_
  refine q_iconst (v := 2) C dL_law_435 rfl ?_
  refine q_iadd C dL_law_436 ?_
  refine q_sld C hin2 rfl dL_law_437 ?_
  refine q_aload_n C 0 dL_law_438 rfl rfl ?_
  refine q_iload_n C 3 dL_law_439 rfl rfl ?_
  refine q_iconst (v := 3) C dL_law_440 rfl ?_
  refine q_iadd C dL_law_441 ?_
  refine q_sld C hin3 rfl dL_law_442 ?_
  refine q_aload_n C 0 dL_law_443 rfl rfl ?_
  refine q_iload_n C 3 dL_law_444 rfl rfl ?_
  refine q_iconst (v := 4) C dL_law_445 rfl ?_
  refine q_iadd C dL_law_446 ?_
  refine q_sld C hin4 rfl dL_law_447 ?_
  refine q_aload_n C 0 dL_law_448 rfl rfl ?_
  refine q_iload_n C 3 dL_law_449 rfl rfl ?_
  refine q_iconst (v := 5) C dL_law_450 rfl ?_
  refine q_iadd C dL_law_451 ?_
  refine q_sld C hin5 rfl dL_law_452 ?_
  obtain ⟨r, hf1, hf2, hR⟩ := hs _ _ (xs (i3 + 1).toNatClampNeg) (xs (i3 + 2).toNatClampNeg) (xs (i3 + 3).toNatClampNeg) (xs (i3 + 4).toNatClampNeg) (xs (i3 + 5).toNatClampNeg) hRel
  refine q_callX (rest := []) C (by decide) (mX11_fits hf1) rfl cb_X11_fits ml_L_38 im_X11_fits se_X11_fits rfl rfl (Nat.le_of_ble_eq_true rfl) dL_law_453 ?_
  refine q_aload_n C 2 dL_law_456 rfl rfl ?_
  refine q_aload_n C 0 dL_law_457 rfl rfl ?_
  refine q_iload_n C 3 dL_law_458 rfl rfl ?_
  refine q_iconst (v := 1) C dL_law_459 rfl ?_
  refine q_iadd C dL_law_460 ?_
  refine q_sld C hin1 rfl dL_law_461 ?_
  refine q_aload_n C 0 dL_law_462 rfl rfl ?_
  refine q_iload_n C 3 dL_law_463 rfl rfl ?_
  refine q_iconst (v := 2) C dL_law_464 rfl ?_
  refine q_iadd C dL_law_465 ?_
  refine q_sld C hin2 rfl dL_law_466 ?_
  refine q_aload_n C 0 dL_law_467 rfl rfl ?_
  refine q_iload_n C 3 dL_law_468 rfl rfl ?_
  refine q_iconst (v := 3) C dL_law_469 rfl ?_
  refine q_iadd C dL_law_470 ?_
  refine q_sld C hin3 rfl dL_law_471 ?_
  refine q_aload_n C 0 dL_law_472 rfl rfl ?_
  refine q_iload_n C 3 dL_law_473 rfl rfl ?_
  refine q_iconst (v := 4) C dL_law_474 rfl ?_
  refine q_iadd C dL_law_475 ?_
  refine q_sld C hin4 rfl dL_law_476 ?_
  refine q_aload_n C 0 dL_law_477 rfl rfl ?_
  refine q_iload_n C 3 dL_law_478 rfl rfl ?_
  refine q_iconst (v := 5) C dL_law_479 rfl ?_
  refine q_iadd C dL_law_480 ?_
  refine q_sld C hin5 rfl dL_law_481 ?_
  refine q_callM (rest := [.int r]) C (by decide) (mX12_fits hf2) rfl cb_X12_fits ml_L_42 im_X12_fits se_X12_fits rfl rfl (Nat.le_of_ble_eq_true rfl) dL_law_482 ?_
  refine q_icmp_eq C 1536 dL_law_485 (by decide) ?_
  exact ih _ _ hR
def Sim_open (Rel : St → St → Prop) : Prop := ∀ (SX SM : St), Rel SX SM → ∃ (r : Int32), fX11_open SX  = some r ∧ fX12_open SM  = some r ∧ Rel SX SM
set_option maxRecDepth 100000 in
set_option maxHeartbeats 4000000 in
theorem law_open {e : Env} {p : Program} {s : State} {m : MethodId} {below : List Frame} {meth : Method} {c : Code} {b L : Nat} {xs : Nat → Int32} {G1 G2 : Gx} {SX SM : St} {i3 : Int32} {Rel : St → St → Prop} (C : Lx_ p s m meth c b L xs G1 G2) (hin1 : vp_in (i3 + 1) L) (hin2 : vp_in (i3 + 2) L) (hin3 : vp_in (i3 + 3) L) (hin4 : vp_in (i3 + 4) L) (hin5 : vp_in (i3 + 5) L) (hin6 : vp_in (i3 + 6) L) (hin7 : vp_in (i3 + 7) L) (hs : Sim_open Rel) (hRel : Rel SX SM) (ih : ∀ S1 S2, Rel S1 S2 → RLw e p s m below meth c b G1 G2 1536 [(0, .ref b), (1, .ref (ad_ G1 0)), (2, .ref (ad_ G2 0)), (3, .int i3)] [] S1 S2) : RLw e p s m below meth c b G1 G2 490 [(0, .ref b), (1, .ref (ad_ G1 0)), (2, .ref (ad_ G2 0)), (3, .int i3)] [] SX SM := by
  refine q_aload_n C 1 dL_law_490 rfl rfl ?_
  obtain ⟨r, hf1, hf2, hR⟩ := hs _ _  hRel
  refine q_callX (rest := []) C (by decide) (mX11_open hf1) rfl cb_X11_open ml_L_43 im_X11_open se_X11_open rfl rfl (Nat.le_of_ble_eq_true rfl) dL_law_491 ?_
  refine q_aload_n C 2 dL_law_494 rfl rfl ?_
  refine q_callM (rest := [.int r]) C (by decide) (mX12_open hf2) rfl cb_X12_open ml_L_46 im_X12_open se_X12_open rfl rfl (Nat.le_of_ble_eq_true rfl) dL_law_495 ?_
  refine q_icmp_eq C 1536 dL_law_498 (by decide) ?_
  exact ih _ _ hR
def Sim_most (Rel : St → St → Prop) : Prop := ∀ (SX SM : St) (a1 : Int32) (a2 : Int32) (a3 : Int32) (a4 : Int32), Rel SX SM → ∃ (r : Int32) (S1 : St) (S2 : St), fX11_most SX a1 a2 a3 a4 = some (r, S1) ∧ fX12_most SM a1 a2 a3 a4 = some (r, S2) ∧ Rel S1 S2
set_option maxRecDepth 100000 in
set_option maxHeartbeats 4000000 in
theorem law_most {e : Env} {p : Program} {s : State} {m : MethodId} {below : List Frame} {meth : Method} {c : Code} {b L : Nat} {xs : Nat → Int32} {G1 G2 : Gx} {SX SM : St} {i3 : Int32} {Rel : St → St → Prop} (C : Lx_ p s m meth c b L xs G1 G2) (hin1 : vp_in (i3 + 1) L) (hin2 : vp_in (i3 + 2) L) (hin3 : vp_in (i3 + 3) L) (hin4 : vp_in (i3 + 4) L) (hin5 : vp_in (i3 + 5) L) (hin6 : vp_in (i3 + 6) L) (hin7 : vp_in (i3 + 7) L) (hs : Sim_most Rel) (hRel : Rel SX SM) (ih : ∀ S1 S2, Rel S1 S2 → RLw e p s m below meth c b G1 G2 1536 [(0, .ref b), (1, .ref (ad_ G1 0)), (2, .ref (ad_ G2 0)), (3, .int i3)] [] S1 S2) : RLw e p s m below meth c b G1 G2 503 [(0, .ref b), (1, .ref (ad_ G1 0)), (2, .ref (ad_ G2 0)), (3, .int i3)] [] SX SM := by
  refine q_aload_n C 1 dL_law_503 rfl rfl ?_
  refine q_aload_n C 0 dL_law_504 rfl rfl ?_
  refine q_iload_n C 3 dL_law_505 rfl rfl ?_
  refine q_iconst (v := 1) C dL_law_506 rfl ?_
  refine q_iadd C dL_law_507 ?_
  refine q_sld C hin1 rfl dL_law_508 ?_
  refine q_aload_n C 0 dL_law_509 rfl rfl ?_
  refine q_iload_n C 3 dL_law_510 rfl rfl ?_
  refine q_iconst (v := 2) C dL_law_511 rfl ?_
  refine q_iadd C dL_law_512 ?_
  refine q_sld C hin2 rfl dL_law_513 ?_
  refine q_aload_n C 0 dL_law_514 rfl rfl ?_
  refine q_iload_n C 3 dL_law_515 rfl rfl ?_
  refine q_iconst (v := 3) C dL_law_516 rfl ?_
  refine q_iadd C dL_law_517 ?_
  refine q_sld C hin3 rfl dL_law_518 ?_
  refine q_aload_n C 0 dL_law_519 rfl rfl ?_
  refine q_iload_n C 3 dL_law_520 rfl rfl ?_
  refine q_iconst (v := 4) C dL_law_521 rfl ?_
  refine q_iadd C dL_law_522 ?_
  refine q_sld C hin4 rfl dL_law_523 ?_
  obtain ⟨r, S1, S2, hf1, hf2, hR⟩ := hs _ _ (xs (i3 + 1).toNatClampNeg) (xs (i3 + 2).toNatClampNeg) (xs (i3 + 3).toNatClampNeg) (xs (i3 + 4).toNatClampNeg) hRel
  refine q_callX (rest := []) C (by decide) (mX11_most hf1) rfl cb_X11_most ml_L_47 im_X11_most se_X11_most rfl rfl (Nat.le_of_ble_eq_true rfl) dL_law_524 ?_
  refine q_aload_n C 2 dL_law_527 rfl rfl ?_
  refine q_aload_n C 0 dL_law_528 rfl rfl ?_
  refine q_iload_n C 3 dL_law_529 rfl rfl ?_
  refine q_iconst (v := 1) C dL_law_530 rfl ?_
  refine q_iadd C dL_law_531 ?_
  refine q_sld C hin1 rfl dL_law_532 ?_
  refine q_aload_n C 0 dL_law_533 rfl rfl ?_
  refine q_iload_n C 3 dL_law_534 rfl rfl ?_
  refine q_iconst (v := 2) C dL_law_535 rfl ?_
  refine q_iadd C dL_law_536 ?_
  refine q_sld C hin2 rfl dL_law_537 ?_
  refine q_aload_n C 0 dL_law_538 rfl rfl ?_
  refine q_iload_n C 3 dL_law_539 rfl rfl ?_
  refine q_iconst (v := 3) C dL_law_540 rfl ?_
  refine q_iadd C dL_law_541 ?_
  refine q_sld C hin3 rfl dL_law_542 ?_
  refine q_aload_n C 0 dL_law_543 rfl rfl ?_
  refine q_iload_n C 3 dL_law_544 rfl rfl ?_
  refine q_iconst (v := 4) C dL_law_545 rfl ?_
  refine q_iadd C dL_law_546 ?_
  refine q_sld C hin4 rfl dL_law_547 ?_
  refine q_callM (rest := [.int r]) C (by decide) (mX12_most hf2) rfl cb_X12_most ml_L_51 im_X12_most se_X12_most rfl rfl (Nat.le_of_ble_eq_true rfl) dL_law_548 ?_
  refine q_icmp_eq C 1536 dL_law_551 (by decide) ?_
  exact ih _ _ hR
def Sim_cut (Rel : St → St → Prop) : Prop := ∀ (SX SM : St) (a1 : Int32) (a2 : Int32) (a3 : Int32) (a4 : Int32), Rel SX SM → ∃ (r : Int32) (S1 : St) (S2 : St), fX11_cut SX a1 a2 a3 a4 = some (r, S1) ∧ fX12_cut SM a1 a2 a3 a4 = some (r, S2) ∧ Rel S1 S2
set_option maxRecDepth 100000 in
set_option maxHeartbeats 4000000 in
theorem law_cut {e : Env} {p : Program} {s : State} {m : MethodId} {below : List Frame} {meth : Method} {c : Code} {b L : Nat} {xs : Nat → Int32} {G1 G2 : Gx} {SX SM : St} {i3 : Int32} {Rel : St → St → Prop} (C : Lx_ p s m meth c b L xs G1 G2) (hin1 : vp_in (i3 + 1) L) (hin2 : vp_in (i3 + 2) L) (hin3 : vp_in (i3 + 3) L) (hin4 : vp_in (i3 + 4) L) (hin5 : vp_in (i3 + 5) L) (hin6 : vp_in (i3 + 6) L) (hin7 : vp_in (i3 + 7) L) (hs : Sim_cut Rel) (hRel : Rel SX SM) (ih : ∀ S1 S2, Rel S1 S2 → RLw e p s m below meth c b G1 G2 1536 [(0, .ref b), (1, .ref (ad_ G1 0)), (2, .ref (ad_ G2 0)), (3, .int i3)] [] S1 S2) : RLw e p s m below meth c b G1 G2 556 [(0, .ref b), (1, .ref (ad_ G1 0)), (2, .ref (ad_ G2 0)), (3, .int i3)] [] SX SM := by
  refine q_aload_n C 1 dL_law_556 rfl rfl ?_
  refine q_aload_n C 0 dL_law_557 rfl rfl ?_
  refine q_iload_n C 3 dL_law_558 rfl rfl ?_
  refine q_iconst (v := 1) C dL_law_559 rfl ?_
  refine q_iadd C dL_law_560 ?_
  refine q_sld C hin1 rfl dL_law_561 ?_
  refine q_aload_n C 0 dL_law_562 rfl rfl ?_
  refine q_iload_n C 3 dL_law_563 rfl rfl ?_
  refine q_iconst (v := 2) C dL_law_564 rfl ?_
  refine q_iadd C dL_law_565 ?_
  refine q_sld C hin2 rfl dL_law_566 ?_
  refine q_aload_n C 0 dL_law_567 rfl rfl ?_
  refine q_iload_n C 3 dL_law_568 rfl rfl ?_
  refine q_iconst (v := 3) C dL_law_569 rfl ?_
  refine q_iadd C dL_law_570 ?_
  refine q_sld C hin3 rfl dL_law_571 ?_
  refine q_aload_n C 0 dL_law_572 rfl rfl ?_
  refine q_iload_n C 3 dL_law_573 rfl rfl ?_
  refine q_iconst (v := 4) C dL_law_574 rfl ?_
  refine q_iadd C dL_law_575 ?_
  refine q_sld C hin4 rfl dL_law_576 ?_
  obtain ⟨r, S1, S2, hf1, hf2, hR⟩ := hs _ _ (xs (i3 + 1).toNatClampNeg) (xs (i3 + 2).toNatClampNeg) (xs (i3 + 3).toNatClampNeg) (xs (i3 + 4).toNatClampNeg) hRel
  refine q_callX (rest := []) C (by decide) (mX11_cut hf1) rfl cb_X11_cut ml_L_52 im_X11_cut se_X11_cut rfl rfl (Nat.le_of_ble_eq_true rfl) dL_law_577 ?_
  refine q_aload_n C 2 dL_law_580 rfl rfl ?_
  refine q_aload_n C 0 dL_law_581 rfl rfl ?_
  refine q_iload_n C 3 dL_law_582 rfl rfl ?_
  refine q_iconst (v := 1) C dL_law_583 rfl ?_
  refine q_iadd C dL_law_584 ?_
  refine q_sld C hin1 rfl dL_law_585 ?_
  refine q_aload_n C 0 dL_law_586 rfl rfl ?_
  refine q_iload_n C 3 dL_law_587 rfl rfl ?_
  refine q_iconst (v := 2) C dL_law_588 rfl ?_
  refine q_iadd C dL_law_589 ?_
  refine q_sld C hin2 rfl dL_law_590 ?_
  refine q_aload_n C 0 dL_law_591 rfl rfl ?_
  refine q_iload_n C 3 dL_law_592 rfl rfl ?_
  refine q_iconst (v := 3) C dL_law_593 rfl ?_
  refine q_iadd C dL_law_594 ?_
  refine q_sld C hin3 rfl dL_law_595 ?_
  refine q_aload_n C 0 dL_law_596 rfl rfl ?_
  refine q_iload_n C 3 dL_law_597 rfl rfl ?_
  refine q_iconst (v := 4) C dL_law_598 rfl ?_
  refine q_iadd C dL_law_599 ?_
  refine q_sld C hin4 rfl dL_law_600 ?_
  refine q_callM (rest := [.int r]) C (by decide) (mX12_cut hf2) rfl cb_X12_cut ml_L_55 im_X12_cut se_X12_cut rfl rfl (Nat.le_of_ble_eq_true rfl) dL_law_601 ?_
  refine q_icmp_eq C 1536 dL_law_604 (by decide) ?_
  exact ih _ _ hR
def Sim_sawn (Rel : St → St → Prop) : Prop := ∀ (SX SM : St) (a1 : Int32), Rel SX SM → ∃ (r : Int32) (S1 : St) (S2 : St), fX11_sawn SX a1 = some (r, S1) ∧ fX12_sawn SM a1 = some (r, S2) ∧ Rel S1 S2
set_option maxRecDepth 100000 in
set_option maxHeartbeats 4000000 in
theorem law_sawn {e : Env} {p : Program} {s : State} {m : MethodId} {below : List Frame} {meth : Method} {c : Code} {b L : Nat} {xs : Nat → Int32} {G1 G2 : Gx} {SX SM : St} {i3 : Int32} {Rel : St → St → Prop} (C : Lx_ p s m meth c b L xs G1 G2) (hin1 : vp_in (i3 + 1) L) (hin2 : vp_in (i3 + 2) L) (hin3 : vp_in (i3 + 3) L) (hin4 : vp_in (i3 + 4) L) (hin5 : vp_in (i3 + 5) L) (hin6 : vp_in (i3 + 6) L) (hin7 : vp_in (i3 + 7) L) (hs : Sim_sawn Rel) (hRel : Rel SX SM) (ih : ∀ S1 S2, Rel S1 S2 → RLw e p s m below meth c b G1 G2 1536 [(0, .ref b), (1, .ref (ad_ G1 0)), (2, .ref (ad_ G2 0)), (3, .int i3)] [] S1 S2) : RLw e p s m below meth c b G1 G2 609 [(0, .ref b), (1, .ref (ad_ G1 0)), (2, .ref (ad_ G2 0)), (3, .int i3)] [] SX SM := by
  refine q_aload_n C 1 dL_law_609 rfl rfl ?_
  refine q_aload_n C 0 dL_law_610 rfl rfl ?_
  refine q_iload_n C 3 dL_law_611 rfl rfl ?_
  refine q_iconst (v := 1) C dL_law_612 rfl ?_
  refine q_iadd C dL_law_613 ?_
  refine q_sld C hin1 rfl dL_law_614 ?_
  obtain ⟨r, S1, S2, hf1, hf2, hR⟩ := hs _ _ (xs (i3 + 1).toNatClampNeg) hRel
  refine q_callX (rest := []) C (by decide) (mX11_sawn hf1) rfl cb_X11_sawn ml_L_56 im_X11_sawn se_X11_sawn rfl rfl (Nat.le_of_ble_eq_true rfl) dL_law_615 ?_
  refine q_aload_n C 2 dL_law_618 rfl rfl ?_
  refine q_aload_n C 0 dL_law_619 rfl rfl ?_
  refine q_iload_n C 3 dL_law_620 rfl rfl ?_
  refine q_iconst (v := 1) C dL_law_621 rfl ?_
  refine q_iadd C dL_law_622 ?_
  refine q_sld C hin1 rfl dL_law_623 ?_
  refine q_callM (rest := [.int r]) C (by decide) (mX12_sawn hf2) rfl cb_X12_sawn ml_L_60 im_X12_sawn se_X12_sawn rfl rfl (Nat.le_of_ble_eq_true rfl) dL_law_624 ?_
  refine q_icmp_eq C 1536 dL_law_627 (by decide) ?_
  exact ih _ _ hR
def Sim_costs (Rel : St → St → Prop) : Prop := ∀ (SX SM : St) (a1 : Int32) (a2 : Int32), Rel SX SM → ∃ (r : Int32) (S1 : St) (S2 : St), fX11_costs SX a1 a2 = some (r, S1) ∧ fX12_costs SM a1 a2 = some (r, S2) ∧ Rel S1 S2
set_option maxRecDepth 100000 in
set_option maxHeartbeats 4000000 in
theorem law_costs {e : Env} {p : Program} {s : State} {m : MethodId} {below : List Frame} {meth : Method} {c : Code} {b L : Nat} {xs : Nat → Int32} {G1 G2 : Gx} {SX SM : St} {i3 : Int32} {Rel : St → St → Prop} (C : Lx_ p s m meth c b L xs G1 G2) (hin1 : vp_in (i3 + 1) L) (hin2 : vp_in (i3 + 2) L) (hin3 : vp_in (i3 + 3) L) (hin4 : vp_in (i3 + 4) L) (hin5 : vp_in (i3 + 5) L) (hin6 : vp_in (i3 + 6) L) (hin7 : vp_in (i3 + 7) L) (hs : Sim_costs Rel) (hRel : Rel SX SM) (ih : ∀ S1 S2, Rel S1 S2 → RLw e p s m below meth c b G1 G2 1536 [(0, .ref b), (1, .ref (ad_ G1 0)), (2, .ref (ad_ G2 0)), (3, .int i3)] [] S1 S2) : RLw e p s m below meth c b G1 G2 632 [(0, .ref b), (1, .ref (ad_ G1 0)), (2, .ref (ad_ G2 0)), (3, .int i3)] [] SX SM := by
  refine q_aload_n C 1 dL_law_632 rfl rfl ?_
  refine q_aload_n C 0 dL_law_633 rfl rfl ?_
  refine q_iload_n C 3 dL_law_634 rfl rfl ?_
  refine q_iconst (v := 1) C dL_law_635 rfl ?_
  refine q_iadd C dL_law_636 ?_
  refine q_sld C hin1 rfl dL_law_637 ?_
  refine q_aload_n C 0 dL_law_638 rfl rfl ?_
  refine q_iload_n C 3 dL_law_639 rfl rfl ?_
  refine q_iconst (v := 2) C dL_law_640 rfl ?_
  refine q_iadd C dL_law_641 ?_
  refine q_sld C hin2 rfl dL_law_642 ?_
  obtain ⟨r, S1, S2, hf1, hf2, hR⟩ := hs _ _ (xs (i3 + 1).toNatClampNeg) (xs (i3 + 2).toNatClampNeg) hRel
  refine q_callX (rest := []) C (by decide) (mX11_costs hf1) rfl cb_X11_costs ml_L_61 im_X11_costs se_X11_costs rfl rfl (Nat.le_of_ble_eq_true rfl) dL_law_643 ?_
  refine q_aload_n C 2 dL_law_646 rfl rfl ?_
  refine q_aload_n C 0 dL_law_647 rfl rfl ?_
  refine q_iload_n C 3 dL_law_648 rfl rfl ?_
  refine q_iconst (v := 1) C dL_law_649 rfl ?_
  refine q_iadd C dL_law_650 ?_
  refine q_sld C hin1 rfl dL_law_651 ?_
  refine q_aload_n C 0 dL_law_652 rfl rfl ?_
  refine q_iload_n C 3 dL_law_653 rfl rfl ?_
  refine q_iconst (v := 2) C dL_law_654 rfl ?_
  refine q_iadd C dL_law_655 ?_
  refine q_sld C hin2 rfl dL_law_656 ?_
  refine q_callM (rest := [.int r]) C (by decide) (mX12_costs hf2) rfl cb_X12_costs ml_L_64 im_X12_costs se_X12_costs rfl rfl (Nat.le_of_ble_eq_true rfl) dL_law_657 ?_
  refine q_icmp_eq C 1536 dL_law_660 (by decide) ?_
  exact ih _ _ hR
def Sim_undo (Rel : St → St → Prop) : Prop := ∀ (SX SM : St), Rel SX SM → ∃ (r : Int32) (S1 : St) (S2 : St), fX11_undo SX  = some (r, S1) ∧ fX12_undo SM  = some (r, S2) ∧ Rel S1 S2
set_option maxRecDepth 100000 in
set_option maxHeartbeats 4000000 in
theorem law_undo {e : Env} {p : Program} {s : State} {m : MethodId} {below : List Frame} {meth : Method} {c : Code} {b L : Nat} {xs : Nat → Int32} {G1 G2 : Gx} {SX SM : St} {i3 : Int32} {Rel : St → St → Prop} (C : Lx_ p s m meth c b L xs G1 G2) (hin1 : vp_in (i3 + 1) L) (hin2 : vp_in (i3 + 2) L) (hin3 : vp_in (i3 + 3) L) (hin4 : vp_in (i3 + 4) L) (hin5 : vp_in (i3 + 5) L) (hin6 : vp_in (i3 + 6) L) (hin7 : vp_in (i3 + 7) L) (hs : Sim_undo Rel) (hRel : Rel SX SM) (ih : ∀ S1 S2, Rel S1 S2 → RLw e p s m below meth c b G1 G2 1536 [(0, .ref b), (1, .ref (ad_ G1 0)), (2, .ref (ad_ G2 0)), (3, .int i3)] [] S1 S2) : RLw e p s m below meth c b G1 G2 665 [(0, .ref b), (1, .ref (ad_ G1 0)), (2, .ref (ad_ G2 0)), (3, .int i3)] [] SX SM := by
  refine q_aload_n C 1 dL_law_665 rfl rfl ?_
  obtain ⟨r, S1, S2, hf1, hf2, hR⟩ := hs _ _  hRel
  refine q_callX (rest := []) C (by decide) (mX11_undo hf1) rfl cb_X11_undo ml_L_65 im_X11_undo se_X11_undo rfl rfl (Nat.le_of_ble_eq_true rfl) dL_law_666 ?_
  refine q_aload_n C 2 dL_law_669 rfl rfl ?_
  refine q_callM (rest := [.int r]) C (by decide) (mX12_undo hf2) rfl cb_X12_undo ml_L_68 im_X12_undo se_X12_undo rfl rfl (Nat.le_of_ble_eq_true rfl) dL_law_670 ?_
  refine q_icmp_eq C 1536 dL_law_673 (by decide) ?_
  exact ih _ _ hR
def Sim_world (Rel : St → St → Prop) : Prop := ∀ (SX SM : St), Rel SX SM → ∃ (r : Int32) (S1 : St) (S2 : St), fX11_world SX  = some (r, S1) ∧ fX12_world SM  = some (r, S2) ∧ Rel S1 S2
set_option maxRecDepth 100000 in
set_option maxHeartbeats 4000000 in
theorem law_world {e : Env} {p : Program} {s : State} {m : MethodId} {below : List Frame} {meth : Method} {c : Code} {b L : Nat} {xs : Nat → Int32} {G1 G2 : Gx} {SX SM : St} {i3 : Int32} {Rel : St → St → Prop} (C : Lx_ p s m meth c b L xs G1 G2) (hin1 : vp_in (i3 + 1) L) (hin2 : vp_in (i3 + 2) L) (hin3 : vp_in (i3 + 3) L) (hin4 : vp_in (i3 + 4) L) (hin5 : vp_in (i3 + 5) L) (hin6 : vp_in (i3 + 6) L) (hin7 : vp_in (i3 + 7) L) (hs : Sim_world Rel) (hRel : Rel SX SM) (ih : ∀ S1 S2, Rel S1 S2 → RLw e p s m below meth c b G1 G2 1536 [(0, .ref b), (1, .ref (ad_ G1 0)), (2, .ref (ad_ G2 0)), (3, .int i3)] [] S1 S2) : RLw e p s m below meth c b G1 G2 678 [(0, .ref b), (1, .ref (ad_ G1 0)), (2, .ref (ad_ G2 0)), (3, .int i3)] [] SX SM := by
  refine q_aload_n C 1 dL_law_678 rfl rfl ?_
  obtain ⟨r, S1, S2, hf1, hf2, hR⟩ := hs _ _  hRel
  refine q_callX (rest := []) C (by decide) (mX11_world hf1) rfl cb_X11_world ml_L_69 im_X11_world se_X11_world rfl rfl (Nat.le_of_ble_eq_true rfl) dL_law_679 ?_
  refine q_aload_n C 2 dL_law_682 rfl rfl ?_
  refine q_callM (rest := [.int r]) C (by decide) (mX12_world hf2) rfl cb_X12_world ml_L_72 im_X12_world se_X12_world rfl rfl (Nat.le_of_ble_eq_true rfl) dL_law_683 ?_
  refine q_icmp_eq C 1536 dL_law_686 (by decide) ?_
  exact ih _ _ hR
def Sim_doubt (Rel : St → St → Prop) : Prop := ∀ (SX SM : St) (a1 : Int32) (a2 : Int32) (a3 : Int32) (a4 : Int32) (_ : a4 = 0 ∨ a4 = 1), Rel SX SM → ∃ (r : Int32) (S1 : St) (S2 : St), fX11_doubt SX a1 a2 a3 a4 = some (r, S1) ∧ fX12_doubt SM a1 a2 a3 a4 = some (r, S2) ∧ Rel S1 S2
set_option maxRecDepth 100000 in
set_option maxHeartbeats 4000000 in
theorem law_doubt {e : Env} {p : Program} {s : State} {m : MethodId} {below : List Frame} {meth : Method} {c : Code} {b L : Nat} {xs : Nat → Int32} {G1 G2 : Gx} {SX SM : St} {i3 : Int32} {Rel : St → St → Prop} (C : Lx_ p s m meth c b L xs G1 G2) (hin1 : vp_in (i3 + 1) L) (hin2 : vp_in (i3 + 2) L) (hin3 : vp_in (i3 + 3) L) (hin4 : vp_in (i3 + 4) L) (hin5 : vp_in (i3 + 5) L) (hin6 : vp_in (i3 + 6) L) (hin7 : vp_in (i3 + 7) L) (hs : Sim_doubt Rel) (hRel : Rel SX SM) (ih : ∀ S1 S2, Rel S1 S2 → RLw e p s m below meth c b G1 G2 1536 [(0, .ref b), (1, .ref (ad_ G1 0)), (2, .ref (ad_ G2 0)), (3, .int i3)] [] S1 S2) : RLw e p s m below meth c b G1 G2 691 [(0, .ref b), (1, .ref (ad_ G1 0)), (2, .ref (ad_ G2 0)), (3, .int i3)] [] SX SM := by
  refine q_aload_n C 1 dL_law_691 rfl rfl ?_
  refine q_aload_n C 0 dL_law_692 rfl rfl ?_
  refine q_iload_n C 3 dL_law_693 rfl rfl ?_
  refine q_iconst (v := 1) C dL_law_694 rfl ?_
  refine q_iadd C dL_law_695 ?_
  refine q_sld C hin1 rfl dL_law_696 ?_
  refine q_aload_n C 0 dL_law_697 rfl rfl ?_
  refine q_iload_n C 3 dL_law_698 rfl rfl ?_
  refine q_iconst (v := 2) C dL_law_699 rfl ?_
  refine q_iadd C dL_law_700 ?_
  refine q_sld C hin2 rfl dL_law_701 ?_
  refine q_aload_n C 0 dL_law_702 rfl rfl ?_
  refine q_iload_n C 3 dL_law_703 rfl rfl ?_
  refine q_iconst (v := 3) C dL_law_704 rfl ?_
  refine q_iadd C dL_law_705 ?_
  refine q_sld C hin3 rfl dL_law_706 ?_
  refine q_aload_n C 0 dL_law_707 rfl rfl ?_
  refine q_iload_n C 3 dL_law_708 rfl rfl ?_
  refine q_iconst (v := 4) C dL_law_709 rfl ?_
  refine q_iadd C dL_law_710 ?_
  refine q_sld C hin4 rfl dL_law_711 ?_
  refine q_if_eq C 719 dL_law_712 (by decide) (fun c0 => ?_) (fun c0 => ?_)
  · refine q_iconst (v := 0) C dL_law_719 rfl ?_
    obtain ⟨r, S1, S2, hf1, hf2, hR⟩ := hs _ _ (xs (i3 + 1).toNatClampNeg) (xs (i3 + 2).toNatClampNeg) (xs (i3 + 3).toNatClampNeg) 0 (Or.inl rfl) hRel
    refine q_callX (rest := []) C (by decide) (mX11_doubt hf1) rfl cb_X11_doubt ml_L_73 im_X11_doubt se_X11_doubt rfl rfl (Nat.le_of_ble_eq_true rfl) dL_law_720 ?_
    refine q_aload_n C 2 dL_law_723 rfl rfl ?_
    refine q_aload_n C 0 dL_law_724 rfl rfl ?_
    refine q_iload_n C 3 dL_law_725 rfl rfl ?_
    refine q_iconst (v := 1) C dL_law_726 rfl ?_
    refine q_iadd C dL_law_727 ?_
    refine q_sld C hin1 rfl dL_law_728 ?_
    refine q_aload_n C 0 dL_law_729 rfl rfl ?_
    refine q_iload_n C 3 dL_law_730 rfl rfl ?_
    refine q_iconst (v := 2) C dL_law_731 rfl ?_
    refine q_iadd C dL_law_732 ?_
    refine q_sld C hin2 rfl dL_law_733 ?_
    refine q_aload_n C 0 dL_law_734 rfl rfl ?_
    refine q_iload_n C 3 dL_law_735 rfl rfl ?_
    refine q_iconst (v := 3) C dL_law_736 rfl ?_
    refine q_iadd C dL_law_737 ?_
    refine q_sld C hin3 rfl dL_law_738 ?_
    refine q_aload_n C 0 dL_law_739 rfl rfl ?_
    refine q_iload_n C 3 dL_law_740 rfl rfl ?_
    refine q_iconst (v := 4) C dL_law_741 rfl ?_
    refine q_iadd C dL_law_742 ?_
    refine q_sld C hin4 rfl dL_law_743 ?_
    refine q_if_eq C 751 dL_law_744 (by decide) (fun _ => ?_) (fun z => absurd c0 z)
    refine q_iconst (v := 0) C dL_law_751 rfl ?_
    refine q_callM (rest := [.int r]) C (by decide) (mX12_doubt hf2) rfl cb_X12_doubt ml_L_77 im_X12_doubt se_X12_doubt rfl rfl (Nat.le_of_ble_eq_true rfl) dL_law_752 ?_
    refine q_icmp_eq C 1536 dL_law_755 (by decide) ?_
    exact ih _ _ hR
  · refine q_iconst (v := 1) C dL_law_715 rfl ?_
    refine q_goto C 720 dL_law_716 (by decide) ?_
    obtain ⟨r, S1, S2, hf1, hf2, hR⟩ := hs _ _ (xs (i3 + 1).toNatClampNeg) (xs (i3 + 2).toNatClampNeg) (xs (i3 + 3).toNatClampNeg) 1 (Or.inr rfl) hRel
    refine q_callX (rest := []) C (by decide) (mX11_doubt hf1) rfl cb_X11_doubt ml_L_73 im_X11_doubt se_X11_doubt rfl rfl (Nat.le_of_ble_eq_true rfl) dL_law_720 ?_
    refine q_aload_n C 2 dL_law_723 rfl rfl ?_
    refine q_aload_n C 0 dL_law_724 rfl rfl ?_
    refine q_iload_n C 3 dL_law_725 rfl rfl ?_
    refine q_iconst (v := 1) C dL_law_726 rfl ?_
    refine q_iadd C dL_law_727 ?_
    refine q_sld C hin1 rfl dL_law_728 ?_
    refine q_aload_n C 0 dL_law_729 rfl rfl ?_
    refine q_iload_n C 3 dL_law_730 rfl rfl ?_
    refine q_iconst (v := 2) C dL_law_731 rfl ?_
    refine q_iadd C dL_law_732 ?_
    refine q_sld C hin2 rfl dL_law_733 ?_
    refine q_aload_n C 0 dL_law_734 rfl rfl ?_
    refine q_iload_n C 3 dL_law_735 rfl rfl ?_
    refine q_iconst (v := 3) C dL_law_736 rfl ?_
    refine q_iadd C dL_law_737 ?_
    refine q_sld C hin3 rfl dL_law_738 ?_
    refine q_aload_n C 0 dL_law_739 rfl rfl ?_
    refine q_iload_n C 3 dL_law_740 rfl rfl ?_
    refine q_iconst (v := 4) C dL_law_741 rfl ?_
    refine q_iadd C dL_law_742 ?_
    refine q_sld C hin4 rfl dL_law_743 ?_
    refine q_if_eq C 751 dL_law_744 (by decide) (fun z => absurd z c0) (fun _ => ?_)
    refine q_iconst (v := 1) C dL_law_747 rfl ?_
    refine q_goto C 752 dL_law_748 (by decide) ?_
    refine q_callM (rest := [.int r]) C (by decide) (mX12_doubt hf2) rfl cb_X12_doubt ml_L_77 im_X12_doubt se_X12_doubt rfl rfl (Nat.le_of_ble_eq_true rfl) dL_law_752 ?_
    refine q_icmp_eq C 1536 dL_law_755 (by decide) ?_
    exact ih _ _ hR
def Sim_choose (Rel : St → St → Prop) : Prop := ∀ (SX SM : St) (a1 : Int32), Rel SX SM → ∃ (r : Int32) (S1 : St) (S2 : St), fX11_choose SX a1 = some (r, S1) ∧ fX12_choose SM a1 = some (r, S2) ∧ Rel S1 S2
set_option maxRecDepth 100000 in
set_option maxHeartbeats 4000000 in
theorem law_choose {e : Env} {p : Program} {s : State} {m : MethodId} {below : List Frame} {meth : Method} {c : Code} {b L : Nat} {xs : Nat → Int32} {G1 G2 : Gx} {SX SM : St} {i3 : Int32} {Rel : St → St → Prop} (C : Lx_ p s m meth c b L xs G1 G2) (hin1 : vp_in (i3 + 1) L) (hin2 : vp_in (i3 + 2) L) (hin3 : vp_in (i3 + 3) L) (hin4 : vp_in (i3 + 4) L) (hin5 : vp_in (i3 + 5) L) (hin6 : vp_in (i3 + 6) L) (hin7 : vp_in (i3 + 7) L) (hs : Sim_choose Rel) (hRel : Rel SX SM) (ih : ∀ S1 S2, Rel S1 S2 → RLw e p s m below meth c b G1 G2 1536 [(0, .ref b), (1, .ref (ad_ G1 0)), (2, .ref (ad_ G2 0)), (3, .int i3)] [] S1 S2) : RLw e p s m below meth c b G1 G2 760 [(0, .ref b), (1, .ref (ad_ G1 0)), (2, .ref (ad_ G2 0)), (3, .int i3)] [] SX SM := by
  refine q_aload_n C 1 dL_law_760 rfl rfl ?_
  refine q_aload_n C 0 dL_law_761 rfl rfl ?_
  refine q_iload_n C 3 dL_law_762 rfl rfl ?_
  refine q_iconst (v := 1) C dL_law_763 rfl ?_
  refine q_iadd C dL_law_764 ?_
  refine q_sld C hin1 rfl dL_law_765 ?_
  obtain ⟨r, S1, S2, hf1, hf2, hR⟩ := hs _ _ (xs (i3 + 1).toNatClampNeg) hRel
  refine q_callX (rest := []) C (by decide) (mX11_choose hf1) rfl cb_X11_choose ml_L_78 im_X11_choose se_X11_choose rfl rfl (Nat.le_of_ble_eq_true rfl) dL_law_766 ?_
  refine q_aload_n C 2 dL_law_769 rfl rfl ?_
  refine q_aload_n C 0 dL_law_770 rfl rfl ?_
  refine q_iload_n C 3 dL_law_771 rfl rfl ?_
  refine q_iconst (v := 1) C dL_law_772 rfl ?_
  refine q_iadd C dL_law_773 ?_
  refine q_sld C hin1 rfl dL_law_774 ?_
  refine q_callM (rest := [.int r]) C (by decide) (mX12_choose hf2) rfl cb_X12_choose ml_L_81 im_X12_choose se_X12_choose rfl rfl (Nat.le_of_ble_eq_true rfl) dL_law_775 ?_
  refine q_icmp_eq C 1536 dL_law_778 (by decide) ?_
  exact ih _ _ hR
def Sim_store (Rel : St → St → Prop) : Prop := ∀ (SX SM : St) (a1 : Int32) (a2 : Int32) (a3 : Int32) (a4 : Int32), Rel SX SM → ∃ (r : Int32) (S1 : St) (S2 : St), fX11_store SX a1 a2 a3 a4 = some (r, S1) ∧ fX12_store SM a1 a2 a3 a4 = some (r, S2) ∧ Rel S1 S2
set_option maxRecDepth 100000 in
set_option maxHeartbeats 4000000 in
theorem law_store {e : Env} {p : Program} {s : State} {m : MethodId} {below : List Frame} {meth : Method} {c : Code} {b L : Nat} {xs : Nat → Int32} {G1 G2 : Gx} {SX SM : St} {i3 : Int32} {Rel : St → St → Prop} (C : Lx_ p s m meth c b L xs G1 G2) (hin1 : vp_in (i3 + 1) L) (hin2 : vp_in (i3 + 2) L) (hin3 : vp_in (i3 + 3) L) (hin4 : vp_in (i3 + 4) L) (hin5 : vp_in (i3 + 5) L) (hin6 : vp_in (i3 + 6) L) (hin7 : vp_in (i3 + 7) L) (hs : Sim_store Rel) (hRel : Rel SX SM) (ih : ∀ S1 S2, Rel S1 S2 → RLw e p s m below meth c b G1 G2 1536 [(0, .ref b), (1, .ref (ad_ G1 0)), (2, .ref (ad_ G2 0)), (3, .int i3)] [] S1 S2) : RLw e p s m below meth c b G1 G2 783 [(0, .ref b), (1, .ref (ad_ G1 0)), (2, .ref (ad_ G2 0)), (3, .int i3)] [] SX SM := by
  refine q_aload_n C 1 dL_law_783 rfl rfl ?_
  refine q_aload_n C 0 dL_law_784 rfl rfl ?_
  refine q_iload_n C 3 dL_law_785 rfl rfl ?_
  refine q_iconst (v := 1) C dL_law_786 rfl ?_
  refine q_iadd C dL_law_787 ?_
  refine q_sld C hin1 rfl dL_law_788 ?_
  refine q_aload_n C 0 dL_law_789 rfl rfl ?_
  refine q_iload_n C 3 dL_law_790 rfl rfl ?_
  refine q_iconst (v := 2) C dL_law_791 rfl ?_
  refine q_iadd C dL_law_792 ?_
  refine q_sld C hin2 rfl dL_law_793 ?_
  refine q_aload_n C 0 dL_law_794 rfl rfl ?_
  refine q_iload_n C 3 dL_law_795 rfl rfl ?_
  refine q_iconst (v := 3) C dL_law_796 rfl ?_
  refine q_iadd C dL_law_797 ?_
  refine q_sld C hin3 rfl dL_law_798 ?_
  refine q_aload_n C 0 dL_law_799 rfl rfl ?_
  refine q_iload_n C 3 dL_law_800 rfl rfl ?_
  refine q_iconst (v := 4) C dL_law_801 rfl ?_
  refine q_iadd C dL_law_802 ?_
  refine q_sld C hin4 rfl dL_law_803 ?_
  obtain ⟨r, S1, S2, hf1, hf2, hR⟩ := hs _ _ (xs (i3 + 1).toNatClampNeg) (xs (i3 + 2).toNatClampNeg) (xs (i3 + 3).toNatClampNeg) (xs (i3 + 4).toNatClampNeg) hRel
  refine q_callX (rest := []) C (by decide) (mX11_store hf1) rfl cb_X11_store ml_L_82 im_X11_store se_X11_store rfl rfl (Nat.le_of_ble_eq_true rfl) dL_law_804 ?_
  refine q_aload_n C 2 dL_law_807 rfl rfl ?_
  refine q_aload_n C 0 dL_law_808 rfl rfl ?_
  refine q_iload_n C 3 dL_law_809 rfl rfl ?_
  refine q_iconst (v := 1) C dL_law_810 rfl ?_
  refine q_iadd C dL_law_811 ?_
  refine q_sld C hin1 rfl dL_law_812 ?_
  refine q_aload_n C 0 dL_law_813 rfl rfl ?_
  refine q_iload_n C 3 dL_law_814 rfl rfl ?_
  refine q_iconst (v := 2) C dL_law_815 rfl ?_
  refine q_iadd C dL_law_816 ?_
  refine q_sld C hin2 rfl dL_law_817 ?_
  refine q_aload_n C 0 dL_law_818 rfl rfl ?_
  refine q_iload_n C 3 dL_law_819 rfl rfl ?_
  refine q_iconst (v := 3) C dL_law_820 rfl ?_
  refine q_iadd C dL_law_821 ?_
  refine q_sld C hin3 rfl dL_law_822 ?_
  refine q_aload_n C 0 dL_law_823 rfl rfl ?_
  refine q_iload_n C 3 dL_law_824 rfl rfl ?_
  refine q_iconst (v := 4) C dL_law_825 rfl ?_
  refine q_iadd C dL_law_826 ?_
  refine q_sld C hin4 rfl dL_law_827 ?_
  refine q_callM (rest := [.int r]) C (by decide) (mX12_store hf2) rfl cb_X12_store ml_L_85 im_X12_store se_X12_store rfl rfl (Nat.le_of_ble_eq_true rfl) dL_law_828 ?_
  refine q_icmp_eq C 1536 dL_law_831 (by decide) ?_
  exact ih _ _ hR
def Sim_stored (Rel : St → St → Prop) : Prop := ∀ (SX SM : St) (a1 : Int32) (a2 : Int32), Rel SX SM → ∃ (r : Int32), fX11_stored SX a1 a2 = some r ∧ fX12_stored SM a1 a2 = some r ∧ Rel SX SM
set_option maxRecDepth 100000 in
set_option maxHeartbeats 4000000 in
theorem law_stored {e : Env} {p : Program} {s : State} {m : MethodId} {below : List Frame} {meth : Method} {c : Code} {b L : Nat} {xs : Nat → Int32} {G1 G2 : Gx} {SX SM : St} {i3 : Int32} {Rel : St → St → Prop} (C : Lx_ p s m meth c b L xs G1 G2) (hin1 : vp_in (i3 + 1) L) (hin2 : vp_in (i3 + 2) L) (hin3 : vp_in (i3 + 3) L) (hin4 : vp_in (i3 + 4) L) (hin5 : vp_in (i3 + 5) L) (hin6 : vp_in (i3 + 6) L) (hin7 : vp_in (i3 + 7) L) (hs : Sim_stored Rel) (hRel : Rel SX SM) (ih : ∀ S1 S2, Rel S1 S2 → RLw e p s m below meth c b G1 G2 1536 [(0, .ref b), (1, .ref (ad_ G1 0)), (2, .ref (ad_ G2 0)), (3, .int i3)] [] S1 S2) : RLw e p s m below meth c b G1 G2 836 [(0, .ref b), (1, .ref (ad_ G1 0)), (2, .ref (ad_ G2 0)), (3, .int i3)] [] SX SM := by
  refine q_aload_n C 1 dL_law_836 rfl rfl ?_
  refine q_aload_n C 0 dL_law_837 rfl rfl ?_
  refine q_iload_n C 3 dL_law_838 rfl rfl ?_
  refine q_iconst (v := 1) C dL_law_839 rfl ?_
  refine q_iadd C dL_law_840 ?_
  refine q_sld C hin1 rfl dL_law_841 ?_
  refine q_aload_n C 0 dL_law_842 rfl rfl ?_
  refine q_iload_n C 3 dL_law_843 rfl rfl ?_
  refine q_iconst (v := 2) C dL_law_844 rfl ?_
  refine q_iadd C dL_law_845 ?_
  refine q_sld C hin2 rfl dL_law_846 ?_
  obtain ⟨r, hf1, hf2, hR⟩ := hs _ _ (xs (i3 + 1).toNatClampNeg) (xs (i3 + 2).toNatClampNeg) hRel
  refine q_callX (rest := []) C (by decide) (mX11_stored hf1) rfl cb_X11_stored ml_L_86 im_X11_stored se_X11_stored rfl rfl (Nat.le_of_ble_eq_true rfl) dL_law_847 ?_
  refine q_aload_n C 2 dL_law_850 rfl rfl ?_
  refine q_aload_n C 0 dL_law_851 rfl rfl ?_
  refine q_iload_n C 3 dL_law_852 rfl rfl ?_
  refine q_iconst (v := 1) C dL_law_853 rfl ?_
  refine q_iadd C dL_law_854 ?_
  refine q_sld C hin1 rfl dL_law_855 ?_
  refine q_aload_n C 0 dL_law_856 rfl rfl ?_
  refine q_iload_n C 3 dL_law_857 rfl rfl ?_
  refine q_iconst (v := 2) C dL_law_858 rfl ?_
  refine q_iadd C dL_law_859 ?_
  refine q_sld C hin2 rfl dL_law_860 ?_
  refine q_callM (rest := [.int r]) C (by decide) (mX12_stored hf2) rfl cb_X12_stored ml_L_89 im_X12_stored se_X12_stored rfl rfl (Nat.le_of_ble_eq_true rfl) dL_law_861 ?_
  refine q_icmp_eq C 1536 dL_law_864 (by decide) ?_
  exact ih _ _ hR
def Sim_age (Rel : St → St → Prop) : Prop := ∀ (SX SM : St), Rel SX SM → ∃ (r : Int32) (S1 : St) (S2 : St), fX11_age SX  = some (r, S1) ∧ fX12_age SM  = some (r, S2) ∧ Rel S1 S2
set_option maxRecDepth 100000 in
set_option maxHeartbeats 4000000 in
theorem law_age {e : Env} {p : Program} {s : State} {m : MethodId} {below : List Frame} {meth : Method} {c : Code} {b L : Nat} {xs : Nat → Int32} {G1 G2 : Gx} {SX SM : St} {i3 : Int32} {Rel : St → St → Prop} (C : Lx_ p s m meth c b L xs G1 G2) (hin1 : vp_in (i3 + 1) L) (hin2 : vp_in (i3 + 2) L) (hin3 : vp_in (i3 + 3) L) (hin4 : vp_in (i3 + 4) L) (hin5 : vp_in (i3 + 5) L) (hin6 : vp_in (i3 + 6) L) (hin7 : vp_in (i3 + 7) L) (hs : Sim_age Rel) (hRel : Rel SX SM) (ih : ∀ S1 S2, Rel S1 S2 → RLw e p s m below meth c b G1 G2 1536 [(0, .ref b), (1, .ref (ad_ G1 0)), (2, .ref (ad_ G2 0)), (3, .int i3)] [] S1 S2) : RLw e p s m below meth c b G1 G2 869 [(0, .ref b), (1, .ref (ad_ G1 0)), (2, .ref (ad_ G2 0)), (3, .int i3)] [] SX SM := by
  refine q_aload_n C 1 dL_law_869 rfl rfl ?_
  obtain ⟨r, S1, S2, hf1, hf2, hR⟩ := hs _ _  hRel
  refine q_callX (rest := []) C (by decide) (mX11_age hf1) rfl cb_X11_age ml_L_90 im_X11_age se_X11_age rfl rfl (Nat.le_of_ble_eq_true rfl) dL_law_870 ?_
  refine q_aload_n C 2 dL_law_873 rfl rfl ?_
  refine q_callM (rest := [.int r]) C (by decide) (mX12_age hf2) rfl cb_X12_age ml_L_93 im_X12_age se_X12_age rfl rfl (Nat.le_of_ble_eq_true rfl) dL_law_874 ?_
  refine q_icmp_eq C 1536 dL_law_877 (by decide) ?_
  exact ih _ _ hR
def Sim_order (Rel : St → St → Prop) : Prop := ∀ (SX SM : St) (a1 : Int32) (a2 : Int32) (a3 : Int32), Rel SX SM → ∃ (r : Int32) (S1 : St) (S2 : St), fX11_order SX a1 a2 a3 = some (r, S1) ∧ fX12_order SM a1 a2 a3 = some (r, S2) ∧ Rel S1 S2
set_option maxRecDepth 100000 in
set_option maxHeartbeats 4000000 in
theorem law_order {e : Env} {p : Program} {s : State} {m : MethodId} {below : List Frame} {meth : Method} {c : Code} {b L : Nat} {xs : Nat → Int32} {G1 G2 : Gx} {SX SM : St} {i3 : Int32} {Rel : St → St → Prop} (C : Lx_ p s m meth c b L xs G1 G2) (hin1 : vp_in (i3 + 1) L) (hin2 : vp_in (i3 + 2) L) (hin3 : vp_in (i3 + 3) L) (hin4 : vp_in (i3 + 4) L) (hin5 : vp_in (i3 + 5) L) (hin6 : vp_in (i3 + 6) L) (hin7 : vp_in (i3 + 7) L) (hs : Sim_order Rel) (hRel : Rel SX SM) (ih : ∀ S1 S2, Rel S1 S2 → RLw e p s m below meth c b G1 G2 1536 [(0, .ref b), (1, .ref (ad_ G1 0)), (2, .ref (ad_ G2 0)), (3, .int i3)] [] S1 S2) : RLw e p s m below meth c b G1 G2 882 [(0, .ref b), (1, .ref (ad_ G1 0)), (2, .ref (ad_ G2 0)), (3, .int i3)] [] SX SM := by
  refine q_aload_n C 1 dL_law_882 rfl rfl ?_
  refine q_aload_n C 0 dL_law_883 rfl rfl ?_
  refine q_iload_n C 3 dL_law_884 rfl rfl ?_
  refine q_iconst (v := 1) C dL_law_885 rfl ?_
  refine q_iadd C dL_law_886 ?_
  refine q_sld C hin1 rfl dL_law_887 ?_
  refine q_aload_n C 0 dL_law_888 rfl rfl ?_
  refine q_iload_n C 3 dL_law_889 rfl rfl ?_
  refine q_iconst (v := 2) C dL_law_890 rfl ?_
  refine q_iadd C dL_law_891 ?_
  refine q_sld C hin2 rfl dL_law_892 ?_
  refine q_aload_n C 0 dL_law_893 rfl rfl ?_
  refine q_iload_n C 3 dL_law_894 rfl rfl ?_
  refine q_iconst (v := 3) C dL_law_895 rfl ?_
  refine q_iadd C dL_law_896 ?_
  refine q_sld C hin3 rfl dL_law_897 ?_
  obtain ⟨r, S1, S2, hf1, hf2, hR⟩ := hs _ _ (xs (i3 + 1).toNatClampNeg) (xs (i3 + 2).toNatClampNeg) (xs (i3 + 3).toNatClampNeg) hRel
  refine q_callX (rest := []) C (by decide) (mX11_order hf1) rfl cb_X11_order ml_L_94 im_X11_order se_X11_order rfl rfl (Nat.le_of_ble_eq_true rfl) dL_law_898 ?_
  refine q_aload_n C 2 dL_law_901 rfl rfl ?_
  refine q_aload_n C 0 dL_law_902 rfl rfl ?_
  refine q_iload_n C 3 dL_law_903 rfl rfl ?_
  refine q_iconst (v := 1) C dL_law_904 rfl ?_
  refine q_iadd C dL_law_905 ?_
  refine q_sld C hin1 rfl dL_law_906 ?_
  refine q_aload_n C 0 dL_law_907 rfl rfl ?_
  refine q_iload_n C 3 dL_law_908 rfl rfl ?_
  refine q_iconst (v := 2) C dL_law_909 rfl ?_
  refine q_iadd C dL_law_910 ?_
  refine q_sld C hin2 rfl dL_law_911 ?_
  refine q_aload_n C 0 dL_law_912 rfl rfl ?_
  refine q_iload_n C 3 dL_law_913 rfl rfl ?_
  refine q_iconst (v := 3) C dL_law_914 rfl ?_
  refine q_iadd C dL_law_915 ?_
  refine q_sld C hin3 rfl dL_law_916 ?_
  refine q_callM (rest := [.int r]) C (by decide) (mX12_order hf2) rfl cb_X12_order ml_L_97 im_X12_order se_X12_order rfl rfl (Nat.le_of_ble_eq_true rfl) dL_law_917 ?_
  refine q_icmp_eq C 1536 dL_law_920 (by decide) ?_
  exact ih _ _ hR
def Sim_filled (Rel : St → St → Prop) : Prop := ∀ (SX SM : St) (a1 : Int32), Rel SX SM → ∃ (r : Int32) (S1 : St) (S2 : St), fX11_filled SX a1 = some (r, S1) ∧ fX12_filled SM a1 = some (r, S2) ∧ Rel S1 S2
set_option maxRecDepth 100000 in
set_option maxHeartbeats 4000000 in
theorem law_filled {e : Env} {p : Program} {s : State} {m : MethodId} {below : List Frame} {meth : Method} {c : Code} {b L : Nat} {xs : Nat → Int32} {G1 G2 : Gx} {SX SM : St} {i3 : Int32} {Rel : St → St → Prop} (C : Lx_ p s m meth c b L xs G1 G2) (hin1 : vp_in (i3 + 1) L) (hin2 : vp_in (i3 + 2) L) (hin3 : vp_in (i3 + 3) L) (hin4 : vp_in (i3 + 4) L) (hin5 : vp_in (i3 + 5) L) (hin6 : vp_in (i3 + 6) L) (hin7 : vp_in (i3 + 7) L) (hs : Sim_filled Rel) (hRel : Rel SX SM) (ih : ∀ S1 S2, Rel S1 S2 → RLw e p s m below meth c b G1 G2 1536 [(0, .ref b), (1, .ref (ad_ G1 0)), (2, .ref (ad_ G2 0)), (3, .int i3)] [] S1 S2) : RLw e p s m below meth c b G1 G2 925 [(0, .ref b), (1, .ref (ad_ G1 0)), (2, .ref (ad_ G2 0)), (3, .int i3)] [] SX SM := by
  refine q_aload_n C 1 dL_law_925 rfl rfl ?_
  refine q_aload_n C 0 dL_law_926 rfl rfl ?_
  refine q_iload_n C 3 dL_law_927 rfl rfl ?_
  refine q_iconst (v := 1) C dL_law_928 rfl ?_
  refine q_iadd C dL_law_929 ?_
  refine q_sld C hin1 rfl dL_law_930 ?_
  obtain ⟨r, S1, S2, hf1, hf2, hR⟩ := hs _ _ (xs (i3 + 1).toNatClampNeg) hRel
  refine q_callX (rest := []) C (by decide) (mX11_filled hf1) rfl cb_X11_filled ml_L_98 im_X11_filled se_X11_filled rfl rfl (Nat.le_of_ble_eq_true rfl) dL_law_931 ?_
  refine q_aload_n C 2 dL_law_934 rfl rfl ?_
  refine q_aload_n C 0 dL_law_935 rfl rfl ?_
  refine q_iload_n C 3 dL_law_936 rfl rfl ?_
  refine q_iconst (v := 1) C dL_law_937 rfl ?_
  refine q_iadd C dL_law_938 ?_
  refine q_sld C hin1 rfl dL_law_939 ?_
  refine q_callM (rest := [.int r]) C (by decide) (mX12_filled hf2) rfl cb_X12_filled ml_L_101 im_X12_filled se_X12_filled rfl rfl (Nat.le_of_ble_eq_true rfl) dL_law_940 ?_
  refine q_icmp_eq C 1536 dL_law_943 (by decide) ?_
  exact ih _ _ hR
def Sim_deliver (Rel : St → St → Prop) : Prop := ∀ (SX SM : St), Rel SX SM → ∃ (r : Int32) (S1 : St) (S2 : St), fX11_deliver SX  = some (r, S1) ∧ fX12_deliver SM  = some (r, S2) ∧ Rel S1 S2
set_option maxRecDepth 100000 in
set_option maxHeartbeats 4000000 in
theorem law_deliver {e : Env} {p : Program} {s : State} {m : MethodId} {below : List Frame} {meth : Method} {c : Code} {b L : Nat} {xs : Nat → Int32} {G1 G2 : Gx} {SX SM : St} {i3 : Int32} {Rel : St → St → Prop} (C : Lx_ p s m meth c b L xs G1 G2) (hin1 : vp_in (i3 + 1) L) (hin2 : vp_in (i3 + 2) L) (hin3 : vp_in (i3 + 3) L) (hin4 : vp_in (i3 + 4) L) (hin5 : vp_in (i3 + 5) L) (hin6 : vp_in (i3 + 6) L) (hin7 : vp_in (i3 + 7) L) (hs : Sim_deliver Rel) (hRel : Rel SX SM) (ih : ∀ S1 S2, Rel S1 S2 → RLw e p s m below meth c b G1 G2 1536 [(0, .ref b), (1, .ref (ad_ G1 0)), (2, .ref (ad_ G2 0)), (3, .int i3)] [] S1 S2) : RLw e p s m below meth c b G1 G2 948 [(0, .ref b), (1, .ref (ad_ G1 0)), (2, .ref (ad_ G2 0)), (3, .int i3)] [] SX SM := by
  refine q_aload_n C 1 dL_law_948 rfl rfl ?_
  obtain ⟨r, S1, S2, hf1, hf2, hR⟩ := hs _ _  hRel
  refine q_callX (rest := []) C (by decide) (mX11_deliver hf1) rfl cb_X11_deliver ml_L_102 im_X11_deliver se_X11_deliver rfl rfl (Nat.le_of_ble_eq_true rfl) dL_law_949 ?_
  refine q_aload_n C 2 dL_law_952 rfl rfl ?_
  refine q_callM (rest := [.int r]) C (by decide) (mX12_deliver hf2) rfl cb_X12_deliver ml_L_105 im_X12_deliver se_X12_deliver rfl rfl (Nat.le_of_ble_eq_true rfl) dL_law_953 ?_
  refine q_icmp_eq C 1536 dL_law_956 (by decide) ?_
  exact ih _ _ hR
def Sim_gains (Rel : St → St → Prop) : Prop := ∀ (SX SM : St) (a1 : Int32) (a2 : Int32), Rel SX SM → ∃ (r : Int32) (S1 : St) (S2 : St), fX11_gains SX a1 a2 = some (r, S1) ∧ fX12_gains SM a1 a2 = some (r, S2) ∧ Rel S1 S2
set_option maxRecDepth 100000 in
set_option maxHeartbeats 4000000 in
theorem law_gains {e : Env} {p : Program} {s : State} {m : MethodId} {below : List Frame} {meth : Method} {c : Code} {b L : Nat} {xs : Nat → Int32} {G1 G2 : Gx} {SX SM : St} {i3 : Int32} {Rel : St → St → Prop} (C : Lx_ p s m meth c b L xs G1 G2) (hin1 : vp_in (i3 + 1) L) (hin2 : vp_in (i3 + 2) L) (hin3 : vp_in (i3 + 3) L) (hin4 : vp_in (i3 + 4) L) (hin5 : vp_in (i3 + 5) L) (hin6 : vp_in (i3 + 6) L) (hin7 : vp_in (i3 + 7) L) (hs : Sim_gains Rel) (hRel : Rel SX SM) (ih : ∀ S1 S2, Rel S1 S2 → RLw e p s m below meth c b G1 G2 1536 [(0, .ref b), (1, .ref (ad_ G1 0)), (2, .ref (ad_ G2 0)), (3, .int i3)] [] S1 S2) : RLw e p s m below meth c b G1 G2 961 [(0, .ref b), (1, .ref (ad_ G1 0)), (2, .ref (ad_ G2 0)), (3, .int i3)] [] SX SM := by
  refine q_aload_n C 1 dL_law_961 rfl rfl ?_
  refine q_aload_n C 0 dL_law_962 rfl rfl ?_
  refine q_iload_n C 3 dL_law_963 rfl rfl ?_
  refine q_iconst (v := 1) C dL_law_964 rfl ?_
  refine q_iadd C dL_law_965 ?_
  refine q_sld C hin1 rfl dL_law_966 ?_
  refine q_aload_n C 0 dL_law_967 rfl rfl ?_
  refine q_iload_n C 3 dL_law_968 rfl rfl ?_
  refine q_iconst (v := 2) C dL_law_969 rfl ?_
  refine q_iadd C dL_law_970 ?_
  refine q_sld C hin2 rfl dL_law_971 ?_
  obtain ⟨r, S1, S2, hf1, hf2, hR⟩ := hs _ _ (xs (i3 + 1).toNatClampNeg) (xs (i3 + 2).toNatClampNeg) hRel
  refine q_callX (rest := []) C (by decide) (mX11_gains hf1) rfl cb_X11_gains ml_L_106 im_X11_gains se_X11_gains rfl rfl (Nat.le_of_ble_eq_true rfl) dL_law_972 ?_
  refine q_aload_n C 2 dL_law_975 rfl rfl ?_
  refine q_aload_n C 0 dL_law_976 rfl rfl ?_
  refine q_iload_n C 3 dL_law_977 rfl rfl ?_
  refine q_iconst (v := 1) C dL_law_978 rfl ?_
  refine q_iadd C dL_law_979 ?_
  refine q_sld C hin1 rfl dL_law_980 ?_
  refine q_aload_n C 0 dL_law_981 rfl rfl ?_
  refine q_iload_n C 3 dL_law_982 rfl rfl ?_
  refine q_iconst (v := 2) C dL_law_983 rfl ?_
  refine q_iadd C dL_law_984 ?_
  refine q_sld C hin2 rfl dL_law_985 ?_
  refine q_callM (rest := [.int r]) C (by decide) (mX12_gains hf2) rfl cb_X12_gains ml_L_109 im_X12_gains se_X12_gains rfl rfl (Nat.le_of_ble_eq_true rfl) dL_law_986 ?_
  refine q_icmp_eq C 1536 dL_law_989 (by decide) ?_
  exact ih _ _ hR
def Sim_pipe (Rel : St → St → Prop) : Prop := ∀ (SX SM : St) (a1 : Int32) (a2 : Int32) (a3 : Int32) (a4 : Int32) (a5 : Int32) (a6 : Int32) (a7 : Int32), Rel SX SM → ∃ (r : Int32) (S1 : St) (S2 : St), fX11_pipe SX a1 a2 a3 a4 a5 a6 a7 = some (r, S1) ∧ fX12_pipe SM a1 a2 a3 a4 a5 a6 a7 = some (r, S2) ∧ Rel S1 S2
set_option maxRecDepth 100000 in
set_option maxHeartbeats 4000000 in
theorem law_pipe {e : Env} {p : Program} {s : State} {m : MethodId} {below : List Frame} {meth : Method} {c : Code} {b L : Nat} {xs : Nat → Int32} {G1 G2 : Gx} {SX SM : St} {i3 : Int32} {Rel : St → St → Prop} (C : Lx_ p s m meth c b L xs G1 G2) (hin1 : vp_in (i3 + 1) L) (hin2 : vp_in (i3 + 2) L) (hin3 : vp_in (i3 + 3) L) (hin4 : vp_in (i3 + 4) L) (hin5 : vp_in (i3 + 5) L) (hin6 : vp_in (i3 + 6) L) (hin7 : vp_in (i3 + 7) L) (hs : Sim_pipe Rel) (hRel : Rel SX SM) (ih : ∀ S1 S2, Rel S1 S2 → RLw e p s m below meth c b G1 G2 1536 [(0, .ref b), (1, .ref (ad_ G1 0)), (2, .ref (ad_ G2 0)), (3, .int i3)] [] S1 S2) : RLw e p s m below meth c b G1 G2 994 [(0, .ref b), (1, .ref (ad_ G1 0)), (2, .ref (ad_ G2 0)), (3, .int i3)] [] SX SM := by
  refine q_aload_n C 1 dL_law_994 rfl rfl ?_
  refine q_aload_n C 0 dL_law_995 rfl rfl ?_
  refine q_iload_n C 3 dL_law_996 rfl rfl ?_
  refine q_iconst (v := 1) C dL_law_997 rfl ?_
  refine q_iadd C dL_law_998 ?_
  refine q_sld C hin1 rfl dL_law_999 ?_
  refine q_aload_n C 0 dL_law_1000 rfl rfl ?_
  refine q_iload_n C 3 dL_law_1001 rfl rfl ?_
  refine q_iconst (v := 2) C dL_law_1002 rfl ?_
  refine q_iadd C dL_law_1003 ?_
  refine q_sld C hin2 rfl dL_law_1004 ?_
  refine q_aload_n C 0 dL_law_1005 rfl rfl ?_
  refine q_iload_n C 3 dL_law_1006 rfl rfl ?_
  refine q_iconst (v := 3) C dL_law_1007 rfl ?_
  refine q_iadd C dL_law_1008 ?_
  refine q_sld C hin3 rfl dL_law_1009 ?_
  refine q_aload_n C 0 dL_law_1010 rfl rfl ?_
  refine q_iload_n C 3 dL_law_1011 rfl rfl ?_
  refine q_iconst (v := 4) C dL_law_1012 rfl ?_
  refine q_iadd C dL_law_1013 ?_
  refine q_sld C hin4 rfl dL_law_1014 ?_
  refine q_aload_n C 0 dL_law_1015 rfl rfl ?_
  refine q_iload_n C 3 dL_law_1016 rfl rfl ?_
  refine q_iconst (v := 5) C dL_law_1017 rfl ?_
  refine q_iadd C dL_law_1018 ?_
  refine q_sld C hin5 rfl dL_law_1019 ?_
  refine q_aload_n C 0 dL_law_1020 rfl rfl ?_
  refine q_iload_n C 3 dL_law_1021 rfl rfl ?_
  refine q_bipush (v := 6) C dL_law_1022 rfl ?_
  refine q_iadd C dL_law_1024 ?_
  refine q_sld C hin6 rfl dL_law_1025 ?_
  refine q_aload_n C 0 dL_law_1026 rfl rfl ?_
  refine q_iload_n C 3 dL_law_1027 rfl rfl ?_
  refine q_bipush (v := 7) C dL_law_1028 rfl ?_
  refine q_iadd C dL_law_1030 ?_
  refine q_sld C hin7 rfl dL_law_1031 ?_
  obtain ⟨r, S1, S2, hf1, hf2, hR⟩ := hs _ _ (xs (i3 + 1).toNatClampNeg) (xs (i3 + 2).toNatClampNeg) (xs (i3 + 3).toNatClampNeg) (xs (i3 + 4).toNatClampNeg) (xs (i3 + 5).toNatClampNeg) (xs (i3 + 6).toNatClampNeg) (xs (i3 + 7).toNatClampNeg) hRel
  refine q_callX (rest := []) C (by decide) (mX11_pipe hf1) rfl cb_X11_pipe ml_L_110 im_X11_pipe se_X11_pipe rfl rfl (Nat.le_of_ble_eq_true rfl) dL_law_1032 ?_
  refine q_aload_n C 2 dL_law_1035 rfl rfl ?_
  refine q_aload_n C 0 dL_law_1036 rfl rfl ?_
  refine q_iload_n C 3 dL_law_1037 rfl rfl ?_
  refine q_iconst (v := 1) C dL_law_1038 rfl ?_
  refine q_iadd C dL_law_1039 ?_
  refine q_sld C hin1 rfl dL_law_1040 ?_
  refine q_aload_n C 0 dL_law_1041 rfl rfl ?_
  refine q_iload_n C 3 dL_law_1042 rfl rfl ?_
  refine q_iconst (v := 2) C dL_law_1043 rfl ?_
  refine q_iadd C dL_law_1044 ?_
  refine q_sld C hin2 rfl dL_law_1045 ?_
  refine q_aload_n C 0 dL_law_1046 rfl rfl ?_
  refine q_iload_n C 3 dL_law_1047 rfl rfl ?_
  refine q_iconst (v := 3) C dL_law_1048 rfl ?_
  refine q_iadd C dL_law_1049 ?_
  refine q_sld C hin3 rfl dL_law_1050 ?_
  refine q_aload_n C 0 dL_law_1051 rfl rfl ?_
  refine q_iload_n C 3 dL_law_1052 rfl rfl ?_
  refine q_iconst (v := 4) C dL_law_1053 rfl ?_
  refine q_iadd C dL_law_1054 ?_
  refine q_sld C hin4 rfl dL_law_1055 ?_
  refine q_aload_n C 0 dL_law_1056 rfl rfl ?_
  refine q_iload_n C 3 dL_law_1057 rfl rfl ?_
  refine q_iconst (v := 5) C dL_law_1058 rfl ?_
  refine q_iadd C dL_law_1059 ?_
  refine q_sld C hin5 rfl dL_law_1060 ?_
  refine q_aload_n C 0 dL_law_1061 rfl rfl ?_
  refine q_iload_n C 3 dL_law_1062 rfl rfl ?_
  refine q_bipush (v := 6) C dL_law_1063 rfl ?_
  refine q_iadd C dL_law_1065 ?_
  refine q_sld C hin6 rfl dL_law_1066 ?_
  refine q_aload_n C 0 dL_law_1067 rfl rfl ?_
  refine q_iload_n C 3 dL_law_1068 rfl rfl ?_
  refine q_bipush (v := 7) C dL_law_1069 rfl ?_
  refine q_iadd C dL_law_1071 ?_
  refine q_sld C hin7 rfl dL_law_1072 ?_
  refine q_callM (rest := [.int r]) C (by decide) (mX12_pipe hf2) rfl cb_X12_pipe ml_L_114 im_X12_pipe se_X12_pipe rfl rfl (Nat.le_of_ble_eq_true rfl) dL_law_1073 ?_
  refine q_icmp_eq C 1536 dL_law_1076 (by decide) ?_
  exact ih _ _ hR
def Sim_told (Rel : St → St → Prop) : Prop := ∀ (SX SM : St) (a1 : Int32) (a2 : Int32), Rel SX SM → ∃ (r : Int32), fX11_told SX a1 a2 = some r ∧ fX12_told SM a1 a2 = some r ∧ Rel SX SM
set_option maxRecDepth 100000 in
set_option maxHeartbeats 4000000 in
theorem law_told {e : Env} {p : Program} {s : State} {m : MethodId} {below : List Frame} {meth : Method} {c : Code} {b L : Nat} {xs : Nat → Int32} {G1 G2 : Gx} {SX SM : St} {i3 : Int32} {Rel : St → St → Prop} (C : Lx_ p s m meth c b L xs G1 G2) (hin1 : vp_in (i3 + 1) L) (hin2 : vp_in (i3 + 2) L) (hin3 : vp_in (i3 + 3) L) (hin4 : vp_in (i3 + 4) L) (hin5 : vp_in (i3 + 5) L) (hin6 : vp_in (i3 + 6) L) (hin7 : vp_in (i3 + 7) L) (hs : Sim_told Rel) (hRel : Rel SX SM) (ih : ∀ S1 S2, Rel S1 S2 → RLw e p s m below meth c b G1 G2 1536 [(0, .ref b), (1, .ref (ad_ G1 0)), (2, .ref (ad_ G2 0)), (3, .int i3)] [] S1 S2) : RLw e p s m below meth c b G1 G2 1081 [(0, .ref b), (1, .ref (ad_ G1 0)), (2, .ref (ad_ G2 0)), (3, .int i3)] [] SX SM := by
  refine q_aload_n C 1 dL_law_1081 rfl rfl ?_
  refine q_aload_n C 0 dL_law_1082 rfl rfl ?_
  refine q_iload_n C 3 dL_law_1083 rfl rfl ?_
  refine q_iconst (v := 1) C dL_law_1084 rfl ?_
  refine q_iadd C dL_law_1085 ?_
  refine q_sld C hin1 rfl dL_law_1086 ?_
  refine q_aload_n C 0 dL_law_1087 rfl rfl ?_
  refine q_iload_n C 3 dL_law_1088 rfl rfl ?_
  refine q_iconst (v := 2) C dL_law_1089 rfl ?_
  refine q_iadd C dL_law_1090 ?_
  refine q_sld C hin2 rfl dL_law_1091 ?_
  obtain ⟨r, hf1, hf2, hR⟩ := hs _ _ (xs (i3 + 1).toNatClampNeg) (xs (i3 + 2).toNatClampNeg) hRel
  refine q_callX (rest := []) C (by decide) (mX11_told hf1) rfl cb_X11_told ml_L_115 im_X11_told se_X11_told rfl rfl (Nat.le_of_ble_eq_true rfl) dL_law_1092 ?_
  refine q_aload_n C 2 dL_law_1095 rfl rfl ?_
  refine q_aload_n C 0 dL_law_1096 rfl rfl ?_
  refine q_iload_n C 3 dL_law_1097 rfl rfl ?_
  refine q_iconst (v := 1) C dL_law_1098 rfl ?_
  refine q_iadd C dL_law_1099 ?_
  refine q_sld C hin1 rfl dL_law_1100 ?_
  refine q_aload_n C 0 dL_law_1101 rfl rfl ?_
  refine q_iload_n C 3 dL_law_1102 rfl rfl ?_
  refine q_iconst (v := 2) C dL_law_1103 rfl ?_
  refine q_iadd C dL_law_1104 ?_
  refine q_sld C hin2 rfl dL_law_1105 ?_
  refine q_callM (rest := [.int r]) C (by decide) (mX12_told hf2) rfl cb_X12_told ml_L_118 im_X12_told se_X12_told rfl rfl (Nat.le_of_ble_eq_true rfl) dL_law_1106 ?_
  refine q_icmp_eq C 1536 dL_law_1109 (by decide) ?_
  exact ih _ _ hR
def Sim_feed (Rel : St → St → Prop) : Prop := ∀ (SX SM : St) (a1 : Int64), Rel SX SM → ∃ (r : Int32) (S1 : St) (S2 : St), fX11_feed SX a1 = some (r, S1) ∧ fX12_feed SM a1 = some (r, S2) ∧ Rel S1 S2
set_option maxRecDepth 100000 in
set_option maxHeartbeats 4000000 in
theorem law_feed {e : Env} {p : Program} {s : State} {m : MethodId} {below : List Frame} {meth : Method} {c : Code} {b L : Nat} {xs : Nat → Int32} {G1 G2 : Gx} {SX SM : St} {i3 : Int32} {Rel : St → St → Prop} (C : Lx_ p s m meth c b L xs G1 G2) (hin1 : vp_in (i3 + 1) L) (hin2 : vp_in (i3 + 2) L) (hin3 : vp_in (i3 + 3) L) (hin4 : vp_in (i3 + 4) L) (hin5 : vp_in (i3 + 5) L) (hin6 : vp_in (i3 + 6) L) (hin7 : vp_in (i3 + 7) L) (hs : Sim_feed Rel) (hRel : Rel SX SM) (ih : ∀ S1 S2, Rel S1 S2 → RLw e p s m below meth c b G1 G2 1536 [(0, .ref b), (1, .ref (ad_ G1 0)), (2, .ref (ad_ G2 0)), (3, .int i3)] [] S1 S2) : RLw e p s m below meth c b G1 G2 1114 [(0, .ref b), (1, .ref (ad_ G1 0)), (2, .ref (ad_ G2 0)), (3, .int i3)] [] SX SM := by
  refine q_aload_n C 1 dL_law_1114 rfl rfl ?_
  refine q_aload_n C 0 dL_law_1115 rfl rfl ?_
  refine q_iload_n C 3 dL_law_1116 rfl rfl ?_
  refine q_iconst (v := 1) C dL_law_1117 rfl ?_
  refine q_iadd C dL_law_1118 ?_
  refine q_sld C hin1 rfl dL_law_1119 ?_
  refine q_i2l C dL_law_1120 ?_
  refine q_bipush (v := 32) C dL_law_1121 rfl ?_
  refine q_lshl C dL_law_1123 ?_
  refine q_aload_n C 0 dL_law_1124 rfl rfl ?_
  refine q_iload_n C 3 dL_law_1125 rfl rfl ?_
  refine q_iconst (v := 2) C dL_law_1126 rfl ?_
  refine q_iadd C dL_law_1127 ?_
  refine q_sld C hin2 rfl dL_law_1128 ?_
  refine q_i2l C dL_law_1129 ?_
  refine q_ldc2 C kl_L_1130 dL_law_1130 ?_
  refine q_land C dL_law_1133 ?_
  refine q_lor C dL_law_1134 ?_
  obtain ⟨r, S1, S2, hf1, hf2, hR⟩ := hs _ _ (((xs (i3 + 1).toNatClampNeg).toInt64 <<< ((32 : Int32).toInt64 &&& 63)) ||| ((xs (i3 + 2).toNatClampNeg).toInt64 &&& 4294967295)) hRel
  refine q_callX (rest := []) C (by decide) (mX11_feed hf1) rfl cb_X11_feed ml_L_121 im_X11_feed se_X11_feed rfl rfl (Nat.le_of_ble_eq_true rfl) dL_law_1135 ?_
  refine q_aload_n C 2 dL_law_1138 rfl rfl ?_
  refine q_aload_n C 0 dL_law_1139 rfl rfl ?_
  refine q_iload_n C 3 dL_law_1140 rfl rfl ?_
  refine q_iconst (v := 1) C dL_law_1141 rfl ?_
  refine q_iadd C dL_law_1142 ?_
  refine q_sld C hin1 rfl dL_law_1143 ?_
  refine q_i2l C dL_law_1144 ?_
  refine q_bipush (v := 32) C dL_law_1145 rfl ?_
  refine q_lshl C dL_law_1147 ?_
  refine q_aload_n C 0 dL_law_1148 rfl rfl ?_
  refine q_iload_n C 3 dL_law_1149 rfl rfl ?_
  refine q_iconst (v := 2) C dL_law_1150 rfl ?_
  refine q_iadd C dL_law_1151 ?_
  refine q_sld C hin2 rfl dL_law_1152 ?_
  refine q_i2l C dL_law_1153 ?_
  refine q_ldc2 C kl_L_1154 dL_law_1154 ?_
  refine q_land C dL_law_1157 ?_
  refine q_lor C dL_law_1158 ?_
  refine q_callM (rest := [.int r]) C (by decide) (mX12_feed hf2) rfl cb_X12_feed ml_L_125 im_X12_feed se_X12_feed rfl rfl (Nat.le_of_ble_eq_true rfl) dL_law_1159 ?_
  refine q_icmp_eq C 1536 dL_law_1162 (by decide) ?_
  exact ih _ _ hR
def Sim_end (Rel : St → St → Prop) : Prop := ∀ (SX SM : St) (a1 : Int32), Rel SX SM → ∃ (r : Int32) (S1 : St) (S2 : St), fX11_end SX a1 = some (r, S1) ∧ fX12_end SM a1 = some (r, S2) ∧ Rel S1 S2
set_option maxRecDepth 100000 in
set_option maxHeartbeats 4000000 in
theorem law_end {e : Env} {p : Program} {s : State} {m : MethodId} {below : List Frame} {meth : Method} {c : Code} {b L : Nat} {xs : Nat → Int32} {G1 G2 : Gx} {SX SM : St} {i3 : Int32} {Rel : St → St → Prop} (C : Lx_ p s m meth c b L xs G1 G2) (hin1 : vp_in (i3 + 1) L) (hin2 : vp_in (i3 + 2) L) (hin3 : vp_in (i3 + 3) L) (hin4 : vp_in (i3 + 4) L) (hin5 : vp_in (i3 + 5) L) (hin6 : vp_in (i3 + 6) L) (hin7 : vp_in (i3 + 7) L) (hs : Sim_end Rel) (hRel : Rel SX SM) (ih : ∀ S1 S2, Rel S1 S2 → RLw e p s m below meth c b G1 G2 1536 [(0, .ref b), (1, .ref (ad_ G1 0)), (2, .ref (ad_ G2 0)), (3, .int i3)] [] S1 S2) : RLw e p s m below meth c b G1 G2 1167 [(0, .ref b), (1, .ref (ad_ G1 0)), (2, .ref (ad_ G2 0)), (3, .int i3)] [] SX SM := by
  refine q_aload_n C 1 dL_law_1167 rfl rfl ?_
  refine q_aload_n C 0 dL_law_1168 rfl rfl ?_
  refine q_iload_n C 3 dL_law_1169 rfl rfl ?_
  refine q_iconst (v := 1) C dL_law_1170 rfl ?_
  refine q_iadd C dL_law_1171 ?_
  refine q_sld C hin1 rfl dL_law_1172 ?_
  obtain ⟨r, S1, S2, hf1, hf2, hR⟩ := hs _ _ (xs (i3 + 1).toNatClampNeg) hRel
  refine q_callX (rest := []) C (by decide) (mX11_end hf1) rfl cb_X11_end ml_L_126 im_X11_end se_X11_end rfl rfl (Nat.le_of_ble_eq_true rfl) dL_law_1173 ?_
  refine q_aload_n C 2 dL_law_1176 rfl rfl ?_
  refine q_aload_n C 0 dL_law_1177 rfl rfl ?_
  refine q_iload_n C 3 dL_law_1178 rfl rfl ?_
  refine q_iconst (v := 1) C dL_law_1179 rfl ?_
  refine q_iadd C dL_law_1180 ?_
  refine q_sld C hin1 rfl dL_law_1181 ?_
  refine q_callM (rest := [.int r]) C (by decide) (mX12_end hf2) rfl cb_X12_end ml_L_129 im_X12_end se_X12_end rfl rfl (Nat.le_of_ble_eq_true rfl) dL_law_1182 ?_
  refine q_icmp_eq C 1536 dL_law_1185 (by decide) ?_
  exact ih _ _ hR
def Sim_laws (Rel : St → St → Prop) : Prop := ∀ (SX SM : St), Rel SX SM → ∃ (r : Int32) (S1 : St) (S2 : St), fX11_laws SX  = some (r, S1) ∧ fX12_laws SM  = some (r, S2) ∧ Rel S1 S2
set_option maxRecDepth 100000 in
set_option maxHeartbeats 4000000 in
theorem law_laws {e : Env} {p : Program} {s : State} {m : MethodId} {below : List Frame} {meth : Method} {c : Code} {b L : Nat} {xs : Nat → Int32} {G1 G2 : Gx} {SX SM : St} {i3 : Int32} {Rel : St → St → Prop} (C : Lx_ p s m meth c b L xs G1 G2) (hin1 : vp_in (i3 + 1) L) (hin2 : vp_in (i3 + 2) L) (hin3 : vp_in (i3 + 3) L) (hin4 : vp_in (i3 + 4) L) (hin5 : vp_in (i3 + 5) L) (hin6 : vp_in (i3 + 6) L) (hin7 : vp_in (i3 + 7) L) (hs : Sim_laws Rel) (hRel : Rel SX SM) (ih : ∀ S1 S2, Rel S1 S2 → RLw e p s m below meth c b G1 G2 1536 [(0, .ref b), (1, .ref (ad_ G1 0)), (2, .ref (ad_ G2 0)), (3, .int i3)] [] S1 S2) : RLw e p s m below meth c b G1 G2 1190 [(0, .ref b), (1, .ref (ad_ G1 0)), (2, .ref (ad_ G2 0)), (3, .int i3)] [] SX SM := by
  refine q_aload_n C 1 dL_law_1190 rfl rfl ?_
  obtain ⟨r, S1, S2, hf1, hf2, hR⟩ := hs _ _  hRel
  refine q_callX (rest := []) C (by decide) (mX11_laws hf1) rfl cb_X11_laws ml_L_130 im_X11_laws se_X11_laws rfl rfl (Nat.le_of_ble_eq_true rfl) dL_law_1191 ?_
  refine q_aload_n C 2 dL_law_1194 rfl rfl ?_
  refine q_callM (rest := [.int r]) C (by decide) (mX12_laws hf2) rfl cb_X12_laws ml_L_133 im_X12_laws se_X12_laws rfl rfl (Nat.le_of_ble_eq_true rfl) dL_law_1195 ?_
  refine q_icmp_eq C 1536 dL_law_1198 (by decide) ?_
  exact ih _ _ hR
def Sim_fault (Rel : St → St → Prop) : Prop := ∀ (SX SM : St), Rel SX SM → ∃ (r : Int32), fX11_fault SX  = some r ∧ fX12_fault SM  = some r ∧ Rel SX SM
set_option maxRecDepth 100000 in
set_option maxHeartbeats 4000000 in
theorem law_fault {e : Env} {p : Program} {s : State} {m : MethodId} {below : List Frame} {meth : Method} {c : Code} {b L : Nat} {xs : Nat → Int32} {G1 G2 : Gx} {SX SM : St} {i3 : Int32} {Rel : St → St → Prop} (C : Lx_ p s m meth c b L xs G1 G2) (hin1 : vp_in (i3 + 1) L) (hin2 : vp_in (i3 + 2) L) (hin3 : vp_in (i3 + 3) L) (hin4 : vp_in (i3 + 4) L) (hin5 : vp_in (i3 + 5) L) (hin6 : vp_in (i3 + 6) L) (hin7 : vp_in (i3 + 7) L) (hs : Sim_fault Rel) (hRel : Rel SX SM) (ih : ∀ S1 S2, Rel S1 S2 → RLw e p s m below meth c b G1 G2 1536 [(0, .ref b), (1, .ref (ad_ G1 0)), (2, .ref (ad_ G2 0)), (3, .int i3)] [] S1 S2) : RLw e p s m below meth c b G1 G2 1203 [(0, .ref b), (1, .ref (ad_ G1 0)), (2, .ref (ad_ G2 0)), (3, .int i3)] [] SX SM := by
  refine q_aload_n C 1 dL_law_1203 rfl rfl ?_
  obtain ⟨r, hf1, hf2, hR⟩ := hs _ _  hRel
  refine q_callX (rest := []) C (by decide) (mX11_fault hf1) rfl cb_X11_fault ml_L_134 im_X11_fault se_X11_fault rfl rfl (Nat.le_of_ble_eq_true rfl) dL_law_1204 ?_
  refine q_aload_n C 2 dL_law_1207 rfl rfl ?_
  refine q_callM (rest := [.int r]) C (by decide) (mX12_fault hf2) rfl cb_X12_fault ml_L_137 im_X12_fault se_X12_fault rfl rfl (Nat.le_of_ble_eq_true rfl) dL_law_1208 ?_
  refine q_icmp_eq C 1536 dL_law_1211 (by decide) ?_
  exact ih _ _ hR
def Sim_stamp (Rel : St → St → Prop) : Prop := ∀ (SX SM : St) (a1 : Int32) (a2 : Int32), Rel SX SM → ∃ (r : Int32), fX11_stamp SX a1 a2 = some r ∧ fX12_stamp SM a1 a2 = some r ∧ Rel SX SM
set_option maxRecDepth 100000 in
set_option maxHeartbeats 4000000 in
theorem law_stamp {e : Env} {p : Program} {s : State} {m : MethodId} {below : List Frame} {meth : Method} {c : Code} {b L : Nat} {xs : Nat → Int32} {G1 G2 : Gx} {SX SM : St} {i3 : Int32} {Rel : St → St → Prop} (C : Lx_ p s m meth c b L xs G1 G2) (hin1 : vp_in (i3 + 1) L) (hin2 : vp_in (i3 + 2) L) (hin3 : vp_in (i3 + 3) L) (hin4 : vp_in (i3 + 4) L) (hin5 : vp_in (i3 + 5) L) (hin6 : vp_in (i3 + 6) L) (hin7 : vp_in (i3 + 7) L) (hs : Sim_stamp Rel) (hRel : Rel SX SM) (ih : ∀ S1 S2, Rel S1 S2 → RLw e p s m below meth c b G1 G2 1536 [(0, .ref b), (1, .ref (ad_ G1 0)), (2, .ref (ad_ G2 0)), (3, .int i3)] [] S1 S2) : RLw e p s m below meth c b G1 G2 1216 [(0, .ref b), (1, .ref (ad_ G1 0)), (2, .ref (ad_ G2 0)), (3, .int i3)] [] SX SM := by
  refine q_aload_n C 1 dL_law_1216 rfl rfl ?_
  refine q_aload_n C 0 dL_law_1217 rfl rfl ?_
  refine q_iload_n C 3 dL_law_1218 rfl rfl ?_
  refine q_iconst (v := 1) C dL_law_1219 rfl ?_
  refine q_iadd C dL_law_1220 ?_
  refine q_sld C hin1 rfl dL_law_1221 ?_
  refine q_aload_n C 0 dL_law_1222 rfl rfl ?_
  refine q_iload_n C 3 dL_law_1223 rfl rfl ?_
  refine q_iconst (v := 2) C dL_law_1224 rfl ?_
  refine q_iadd C dL_law_1225 ?_
  refine q_sld C hin2 rfl dL_law_1226 ?_
  obtain ⟨r, hf1, hf2, hR⟩ := hs _ _ (xs (i3 + 1).toNatClampNeg) (xs (i3 + 2).toNatClampNeg) hRel
  refine q_callX (rest := []) C (by decide) (mX11_stamp hf1) rfl cb_X11_stamp ml_L_138 im_X11_stamp se_X11_stamp rfl rfl (Nat.le_of_ble_eq_true rfl) dL_law_1227 ?_
  refine q_aload_n C 2 dL_law_1230 rfl rfl ?_
  refine q_aload_n C 0 dL_law_1231 rfl rfl ?_
  refine q_iload_n C 3 dL_law_1232 rfl rfl ?_
  refine q_iconst (v := 1) C dL_law_1233 rfl ?_
  refine q_iadd C dL_law_1234 ?_
  refine q_sld C hin1 rfl dL_law_1235 ?_
  refine q_aload_n C 0 dL_law_1236 rfl rfl ?_
  refine q_iload_n C 3 dL_law_1237 rfl rfl ?_
  refine q_iconst (v := 2) C dL_law_1238 rfl ?_
  refine q_iadd C dL_law_1239 ?_
  refine q_sld C hin2 rfl dL_law_1240 ?_
  refine q_callM (rest := [.int r]) C (by decide) (mX12_stamp hf2) rfl cb_X12_stamp ml_L_141 im_X12_stamp se_X12_stamp rfl rfl (Nat.le_of_ble_eq_true rfl) dL_law_1241 ?_
  refine q_icmp_eq C 1536 dL_law_1244 (by decide) ?_
  exact ih _ _ hR
def Sim_name (Rel : St → St → Prop) : Prop := ∀ (SX SM : St) (a1 : Int32) (a2 : Int32), Rel SX SM → ∃ (r : Int32), fX11_name SX a1 a2 = some r ∧ fX12_name SM a1 a2 = some r ∧ Rel SX SM
set_option maxRecDepth 100000 in
set_option maxHeartbeats 4000000 in
theorem law_name {e : Env} {p : Program} {s : State} {m : MethodId} {below : List Frame} {meth : Method} {c : Code} {b L : Nat} {xs : Nat → Int32} {G1 G2 : Gx} {SX SM : St} {i3 : Int32} {Rel : St → St → Prop} (C : Lx_ p s m meth c b L xs G1 G2) (hin1 : vp_in (i3 + 1) L) (hin2 : vp_in (i3 + 2) L) (hin3 : vp_in (i3 + 3) L) (hin4 : vp_in (i3 + 4) L) (hin5 : vp_in (i3 + 5) L) (hin6 : vp_in (i3 + 6) L) (hin7 : vp_in (i3 + 7) L) (hs : Sim_name Rel) (hRel : Rel SX SM) (ih : ∀ S1 S2, Rel S1 S2 → RLw e p s m below meth c b G1 G2 1536 [(0, .ref b), (1, .ref (ad_ G1 0)), (2, .ref (ad_ G2 0)), (3, .int i3)] [] S1 S2) : RLw e p s m below meth c b G1 G2 1249 [(0, .ref b), (1, .ref (ad_ G1 0)), (2, .ref (ad_ G2 0)), (3, .int i3)] [] SX SM := by
  refine q_aload_n C 1 dL_law_1249 rfl rfl ?_
  refine q_aload_n C 0 dL_law_1250 rfl rfl ?_
  refine q_iload_n C 3 dL_law_1251 rfl rfl ?_
  refine q_iconst (v := 1) C dL_law_1252 rfl ?_
  refine q_iadd C dL_law_1253 ?_
  refine q_sld C hin1 rfl dL_law_1254 ?_
  refine q_aload_n C 0 dL_law_1255 rfl rfl ?_
  refine q_iload_n C 3 dL_law_1256 rfl rfl ?_
  refine q_iconst (v := 2) C dL_law_1257 rfl ?_
  refine q_iadd C dL_law_1258 ?_
  refine q_sld C hin2 rfl dL_law_1259 ?_
  obtain ⟨r, hf1, hf2, hR⟩ := hs _ _ (xs (i3 + 1).toNatClampNeg) (xs (i3 + 2).toNatClampNeg) hRel
  refine q_callX (rest := []) C (by decide) (mX11_name hf1) rfl cb_X11_name ml_L_142 im_X11_name se_X11_name rfl rfl (Nat.le_of_ble_eq_true rfl) dL_law_1260 ?_
  refine q_aload_n C 2 dL_law_1263 rfl rfl ?_
  refine q_aload_n C 0 dL_law_1264 rfl rfl ?_
  refine q_iload_n C 3 dL_law_1265 rfl rfl ?_
  refine q_iconst (v := 1) C dL_law_1266 rfl ?_
  refine q_iadd C dL_law_1267 ?_
  refine q_sld C hin1 rfl dL_law_1268 ?_
  refine q_aload_n C 0 dL_law_1269 rfl rfl ?_
  refine q_iload_n C 3 dL_law_1270 rfl rfl ?_
  refine q_iconst (v := 2) C dL_law_1271 rfl ?_
  refine q_iadd C dL_law_1272 ?_
  refine q_sld C hin2 rfl dL_law_1273 ?_
  refine q_callM (rest := [.int r]) C (by decide) (mX12_name hf2) rfl cb_X12_name ml_L_145 im_X12_name se_X12_name rfl rfl (Nat.le_of_ble_eq_true rfl) dL_law_1274 ?_
  refine q_icmp_eq C 1536 dL_law_1277 (by decide) ?_
  exact ih _ _ hR
def Sim_years (Rel : St → St → Prop) : Prop := ∀ (SX SM : St) (a1 : Int32) (a2 : Int32), Rel SX SM → ∃ (r : Int32) (S2 : St), fX11_years SX a1 a2 = some r ∧ fX12_years SM a1 a2 = some (r, S2) ∧ Rel SX S2
set_option maxRecDepth 100000 in
set_option maxHeartbeats 4000000 in
theorem law_years {e : Env} {p : Program} {s : State} {m : MethodId} {below : List Frame} {meth : Method} {c : Code} {b L : Nat} {xs : Nat → Int32} {G1 G2 : Gx} {SX SM : St} {i3 : Int32} {Rel : St → St → Prop} (C : Lx_ p s m meth c b L xs G1 G2) (hin1 : vp_in (i3 + 1) L) (hin2 : vp_in (i3 + 2) L) (hin3 : vp_in (i3 + 3) L) (hin4 : vp_in (i3 + 4) L) (hin5 : vp_in (i3 + 5) L) (hin6 : vp_in (i3 + 6) L) (hin7 : vp_in (i3 + 7) L) (hs : Sim_years Rel) (hRel : Rel SX SM) (ih : ∀ S1 S2, Rel S1 S2 → RLw e p s m below meth c b G1 G2 1536 [(0, .ref b), (1, .ref (ad_ G1 0)), (2, .ref (ad_ G2 0)), (3, .int i3)] [] S1 S2) : RLw e p s m below meth c b G1 G2 1282 [(0, .ref b), (1, .ref (ad_ G1 0)), (2, .ref (ad_ G2 0)), (3, .int i3)] [] SX SM := by
  refine q_aload_n C 1 dL_law_1282 rfl rfl ?_
  refine q_aload_n C 0 dL_law_1283 rfl rfl ?_
  refine q_iload_n C 3 dL_law_1284 rfl rfl ?_
  refine q_iconst (v := 1) C dL_law_1285 rfl ?_
  refine q_iadd C dL_law_1286 ?_
  refine q_sld C hin1 rfl dL_law_1287 ?_
  refine q_aload_n C 0 dL_law_1288 rfl rfl ?_
  refine q_iload_n C 3 dL_law_1289 rfl rfl ?_
  refine q_iconst (v := 2) C dL_law_1290 rfl ?_
  refine q_iadd C dL_law_1291 ?_
  refine q_sld C hin2 rfl dL_law_1292 ?_
  obtain ⟨r, S2, hf1, hf2, hR⟩ := hs _ _ (xs (i3 + 1).toNatClampNeg) (xs (i3 + 2).toNatClampNeg) hRel
  refine q_callX (rest := []) C (by decide) (mX11_years hf1) rfl cb_X11_years ml_L_146 im_X11_years se_X11_years rfl rfl (Nat.le_of_ble_eq_true rfl) dL_law_1293 ?_
  refine q_aload_n C 2 dL_law_1296 rfl rfl ?_
  refine q_aload_n C 0 dL_law_1297 rfl rfl ?_
  refine q_iload_n C 3 dL_law_1298 rfl rfl ?_
  refine q_iconst (v := 1) C dL_law_1299 rfl ?_
  refine q_iadd C dL_law_1300 ?_
  refine q_sld C hin1 rfl dL_law_1301 ?_
  refine q_aload_n C 0 dL_law_1302 rfl rfl ?_
  refine q_iload_n C 3 dL_law_1303 rfl rfl ?_
  refine q_iconst (v := 2) C dL_law_1304 rfl ?_
  refine q_iadd C dL_law_1305 ?_
  refine q_sld C hin2 rfl dL_law_1306 ?_
  refine q_callM (rest := [.int r]) C (by decide) (mX12_years hf2) rfl cb_X12_years ml_L_149 im_X12_years se_X12_years rfl rfl (Nat.le_of_ble_eq_true rfl) dL_law_1307 ?_
  refine q_icmp_eq C 1536 dL_law_1310 (by decide) ?_
  exact ih _ _ hR
def Sim_dated (Rel : St → St → Prop) : Prop := ∀ (SX SM : St) (a1 : Int32), Rel SX SM → ∃ (r : Int32) (S2 : St), fX11_dated SX a1 = some r ∧ fX12_dated SM a1 = some (r, S2) ∧ Rel SX S2
set_option maxRecDepth 100000 in
set_option maxHeartbeats 4000000 in
theorem law_dated {e : Env} {p : Program} {s : State} {m : MethodId} {below : List Frame} {meth : Method} {c : Code} {b L : Nat} {xs : Nat → Int32} {G1 G2 : Gx} {SX SM : St} {i3 : Int32} {Rel : St → St → Prop} (C : Lx_ p s m meth c b L xs G1 G2) (hin1 : vp_in (i3 + 1) L) (hin2 : vp_in (i3 + 2) L) (hin3 : vp_in (i3 + 3) L) (hin4 : vp_in (i3 + 4) L) (hin5 : vp_in (i3 + 5) L) (hin6 : vp_in (i3 + 6) L) (hin7 : vp_in (i3 + 7) L) (hs : Sim_dated Rel) (hRel : Rel SX SM) (ih : ∀ S1 S2, Rel S1 S2 → RLw e p s m below meth c b G1 G2 1536 [(0, .ref b), (1, .ref (ad_ G1 0)), (2, .ref (ad_ G2 0)), (3, .int i3)] [] S1 S2) : RLw e p s m below meth c b G1 G2 1315 [(0, .ref b), (1, .ref (ad_ G1 0)), (2, .ref (ad_ G2 0)), (3, .int i3)] [] SX SM := by
  refine q_aload_n C 1 dL_law_1315 rfl rfl ?_
  refine q_aload_n C 0 dL_law_1316 rfl rfl ?_
  refine q_iload_n C 3 dL_law_1317 rfl rfl ?_
  refine q_iconst (v := 1) C dL_law_1318 rfl ?_
  refine q_iadd C dL_law_1319 ?_
  refine q_sld C hin1 rfl dL_law_1320 ?_
  obtain ⟨r, S2, hf1, hf2, hR⟩ := hs _ _ (xs (i3 + 1).toNatClampNeg) hRel
  refine q_callX (rest := []) C (by decide) (mX11_dated hf1) rfl cb_X11_dated ml_L_150 im_X11_dated se_X11_dated rfl rfl (Nat.le_of_ble_eq_true rfl) dL_law_1321 ?_
  refine q_aload_n C 2 dL_law_1324 rfl rfl ?_
  refine q_aload_n C 0 dL_law_1325 rfl rfl ?_
  refine q_iload_n C 3 dL_law_1326 rfl rfl ?_
  refine q_iconst (v := 1) C dL_law_1327 rfl ?_
  refine q_iadd C dL_law_1328 ?_
  refine q_sld C hin1 rfl dL_law_1329 ?_
  refine q_callM (rest := [.int r]) C (by decide) (mX12_dated hf2) rfl cb_X12_dated ml_L_153 im_X12_dated se_X12_dated rfl rfl (Nat.le_of_ble_eq_true rfl) dL_law_1330 ?_
  refine q_icmp_eq C 1536 dL_law_1333 (by decide) ?_
  exact ih _ _ hR
def Sim_lot (Rel : St → St → Prop) : Prop := ∀ (SX SM : St) (a1 : Int32) (a2 : Int32), Rel SX SM → ∃ (r : Int32) (S2 : St), fX11_lot SX a1 a2 = some r ∧ fX12_lot SM a1 a2 = some (r, S2) ∧ Rel SX S2
set_option maxRecDepth 100000 in
set_option maxHeartbeats 4000000 in
theorem law_lot {e : Env} {p : Program} {s : State} {m : MethodId} {below : List Frame} {meth : Method} {c : Code} {b L : Nat} {xs : Nat → Int32} {G1 G2 : Gx} {SX SM : St} {i3 : Int32} {Rel : St → St → Prop} (C : Lx_ p s m meth c b L xs G1 G2) (hin1 : vp_in (i3 + 1) L) (hin2 : vp_in (i3 + 2) L) (hin3 : vp_in (i3 + 3) L) (hin4 : vp_in (i3 + 4) L) (hin5 : vp_in (i3 + 5) L) (hin6 : vp_in (i3 + 6) L) (hin7 : vp_in (i3 + 7) L) (hs : Sim_lot Rel) (hRel : Rel SX SM) (ih : ∀ S1 S2, Rel S1 S2 → RLw e p s m below meth c b G1 G2 1536 [(0, .ref b), (1, .ref (ad_ G1 0)), (2, .ref (ad_ G2 0)), (3, .int i3)] [] S1 S2) : RLw e p s m below meth c b G1 G2 1338 [(0, .ref b), (1, .ref (ad_ G1 0)), (2, .ref (ad_ G2 0)), (3, .int i3)] [] SX SM := by
  refine q_aload_n C 1 dL_law_1338 rfl rfl ?_
  refine q_aload_n C 0 dL_law_1339 rfl rfl ?_
  refine q_iload_n C 3 dL_law_1340 rfl rfl ?_
  refine q_iconst (v := 1) C dL_law_1341 rfl ?_
  refine q_iadd C dL_law_1342 ?_
  refine q_sld C hin1 rfl dL_law_1343 ?_
  refine q_aload_n C 0 dL_law_1344 rfl rfl ?_
  refine q_iload_n C 3 dL_law_1345 rfl rfl ?_
  refine q_iconst (v := 2) C dL_law_1346 rfl ?_
  refine q_iadd C dL_law_1347 ?_
  refine q_sld C hin2 rfl dL_law_1348 ?_
  obtain ⟨r, S2, hf1, hf2, hR⟩ := hs _ _ (xs (i3 + 1).toNatClampNeg) (xs (i3 + 2).toNatClampNeg) hRel
  refine q_callX (rest := []) C (by decide) (mX11_lot hf1) rfl cb_X11_lot ml_L_154 im_X11_lot se_X11_lot rfl rfl (Nat.le_of_ble_eq_true rfl) dL_law_1349 ?_
  refine q_aload_n C 2 dL_law_1352 rfl rfl ?_
  refine q_aload_n C 0 dL_law_1353 rfl rfl ?_
  refine q_iload_n C 3 dL_law_1354 rfl rfl ?_
  refine q_iconst (v := 1) C dL_law_1355 rfl ?_
  refine q_iadd C dL_law_1356 ?_
  refine q_sld C hin1 rfl dL_law_1357 ?_
  refine q_aload_n C 0 dL_law_1358 rfl rfl ?_
  refine q_iload_n C 3 dL_law_1359 rfl rfl ?_
  refine q_iconst (v := 2) C dL_law_1360 rfl ?_
  refine q_iadd C dL_law_1361 ?_
  refine q_sld C hin2 rfl dL_law_1362 ?_
  refine q_callM (rest := [.int r]) C (by decide) (mX12_lot hf2) rfl cb_X12_lot ml_L_157 im_X12_lot se_X12_lot rfl rfl (Nat.le_of_ble_eq_true rfl) dL_law_1363 ?_
  refine q_icmp_eq C 1536 dL_law_1366 (by decide) ?_
  exact ih _ _ hR
def Sim_worst (Rel : St → St → Prop) : Prop := ∀ (SX SM : St), Rel SX SM → ∃ (r : Int32) (S2 : St), fX11_worst SX  = some r ∧ fX12_worst SM  = some (r, S2) ∧ Rel SX S2
set_option maxRecDepth 100000 in
set_option maxHeartbeats 4000000 in
theorem law_worst {e : Env} {p : Program} {s : State} {m : MethodId} {below : List Frame} {meth : Method} {c : Code} {b L : Nat} {xs : Nat → Int32} {G1 G2 : Gx} {SX SM : St} {i3 : Int32} {Rel : St → St → Prop} (C : Lx_ p s m meth c b L xs G1 G2) (hin1 : vp_in (i3 + 1) L) (hin2 : vp_in (i3 + 2) L) (hin3 : vp_in (i3 + 3) L) (hin4 : vp_in (i3 + 4) L) (hin5 : vp_in (i3 + 5) L) (hin6 : vp_in (i3 + 6) L) (hin7 : vp_in (i3 + 7) L) (hs : Sim_worst Rel) (hRel : Rel SX SM) (ih : ∀ S1 S2, Rel S1 S2 → RLw e p s m below meth c b G1 G2 1536 [(0, .ref b), (1, .ref (ad_ G1 0)), (2, .ref (ad_ G2 0)), (3, .int i3)] [] S1 S2) : RLw e p s m below meth c b G1 G2 1371 [(0, .ref b), (1, .ref (ad_ G1 0)), (2, .ref (ad_ G2 0)), (3, .int i3)] [] SX SM := by
  refine q_aload_n C 1 dL_law_1371 rfl rfl ?_
  obtain ⟨r, S2, hf1, hf2, hR⟩ := hs _ _  hRel
  refine q_callX (rest := []) C (by decide) (mX11_worst hf1) rfl cb_X11_worst ml_L_158 im_X11_worst se_X11_worst rfl rfl (Nat.le_of_ble_eq_true rfl) dL_law_1372 ?_
  refine q_aload_n C 2 dL_law_1375 rfl rfl ?_
  refine q_callM (rest := [.int r]) C (by decide) (mX12_worst hf2) rfl cb_X12_worst ml_L_161 im_X12_worst se_X12_worst rfl rfl (Nat.le_of_ble_eq_true rfl) dL_law_1376 ?_
  refine q_icmp_eq C 1536 dL_law_1379 (by decide) ?_
  exact ih _ _ hR
def Sim_sheet (Rel : St → St → Prop) : Prop := ∀ (SX SM : St) (a1 : Int32) (a2 : Int32) (a3 : Int32), Rel SX SM → ∃ (r : Int32) (S1 : St) (S2 : St), fX11_sheet SX a1 a2 a3 = some (r, S1) ∧ fX12_sheet SM a1 a2 a3 = some (r, S2) ∧ Rel S1 S2
set_option maxRecDepth 100000 in
set_option maxHeartbeats 4000000 in
theorem law_sheet {e : Env} {p : Program} {s : State} {m : MethodId} {below : List Frame} {meth : Method} {c : Code} {b L : Nat} {xs : Nat → Int32} {G1 G2 : Gx} {SX SM : St} {i3 : Int32} {Rel : St → St → Prop} (C : Lx_ p s m meth c b L xs G1 G2) (hin1 : vp_in (i3 + 1) L) (hin2 : vp_in (i3 + 2) L) (hin3 : vp_in (i3 + 3) L) (hin4 : vp_in (i3 + 4) L) (hin5 : vp_in (i3 + 5) L) (hin6 : vp_in (i3 + 6) L) (hin7 : vp_in (i3 + 7) L) (hs : Sim_sheet Rel) (hRel : Rel SX SM) (ih : ∀ S1 S2, Rel S1 S2 → RLw e p s m below meth c b G1 G2 1536 [(0, .ref b), (1, .ref (ad_ G1 0)), (2, .ref (ad_ G2 0)), (3, .int i3)] [] S1 S2) : RLw e p s m below meth c b G1 G2 1384 [(0, .ref b), (1, .ref (ad_ G1 0)), (2, .ref (ad_ G2 0)), (3, .int i3)] [] SX SM := by
  refine q_aload_n C 1 dL_law_1384 rfl rfl ?_
  refine q_aload_n C 0 dL_law_1385 rfl rfl ?_
  refine q_iload_n C 3 dL_law_1386 rfl rfl ?_
  refine q_iconst (v := 1) C dL_law_1387 rfl ?_
  refine q_iadd C dL_law_1388 ?_
  refine q_sld C hin1 rfl dL_law_1389 ?_
  refine q_aload_n C 0 dL_law_1390 rfl rfl ?_
  refine q_iload_n C 3 dL_law_1391 rfl rfl ?_
  refine q_iconst (v := 2) C dL_law_1392 rfl ?_
  refine q_iadd C dL_law_1393 ?_
  refine q_sld C hin2 rfl dL_law_1394 ?_
  refine q_aload_n C 0 dL_law_1395 rfl rfl ?_
  refine q_iload_n C 3 dL_law_1396 rfl rfl ?_
  refine q_iconst (v := 3) C dL_law_1397 rfl ?_
  refine q_iadd C dL_law_1398 ?_
  refine q_sld C hin3 rfl dL_law_1399 ?_
  obtain ⟨r, S1, S2, hf1, hf2, hR⟩ := hs _ _ (xs (i3 + 1).toNatClampNeg) (xs (i3 + 2).toNatClampNeg) (xs (i3 + 3).toNatClampNeg) hRel
  refine q_callX (rest := []) C (by decide) (mX11_sheet hf1) rfl cb_X11_sheet ml_L_162 im_X11_sheet se_X11_sheet rfl rfl (Nat.le_of_ble_eq_true rfl) dL_law_1400 ?_
  refine q_aload_n C 2 dL_law_1403 rfl rfl ?_
  refine q_aload_n C 0 dL_law_1404 rfl rfl ?_
  refine q_iload_n C 3 dL_law_1405 rfl rfl ?_
  refine q_iconst (v := 1) C dL_law_1406 rfl ?_
  refine q_iadd C dL_law_1407 ?_
  refine q_sld C hin1 rfl dL_law_1408 ?_
  refine q_aload_n C 0 dL_law_1409 rfl rfl ?_
  refine q_iload_n C 3 dL_law_1410 rfl rfl ?_
  refine q_iconst (v := 2) C dL_law_1411 rfl ?_
  refine q_iadd C dL_law_1412 ?_
  refine q_sld C hin2 rfl dL_law_1413 ?_
  refine q_aload_n C 0 dL_law_1414 rfl rfl ?_
  refine q_iload_n C 3 dL_law_1415 rfl rfl ?_
  refine q_iconst (v := 3) C dL_law_1416 rfl ?_
  refine q_iadd C dL_law_1417 ?_
  refine q_sld C hin3 rfl dL_law_1418 ?_
  refine q_callM (rest := [.int r]) C (by decide) (mX12_sheet hf2) rfl cb_X12_sheet ml_L_165 im_X12_sheet se_X12_sheet rfl rfl (Nat.le_of_ble_eq_true rfl) dL_law_1419 ?_
  refine q_icmp_eq C 1536 dL_law_1422 (by decide) ?_
  exact ih _ _ hR
def Sim_lay (Rel : St → St → Prop) : Prop := ∀ (SX SM : St) (a1 : Int32) (a2 : Int32) (a3 : Int32), Rel SX SM → ∃ (r : Int32) (S1 : St) (S2 : St), fX11_lay SX a1 a2 a3 = some (r, S1) ∧ fX12_lay SM a1 a2 a3 = some (r, S2) ∧ Rel S1 S2
set_option maxRecDepth 100000 in
set_option maxHeartbeats 4000000 in
theorem law_lay {e : Env} {p : Program} {s : State} {m : MethodId} {below : List Frame} {meth : Method} {c : Code} {b L : Nat} {xs : Nat → Int32} {G1 G2 : Gx} {SX SM : St} {i3 : Int32} {Rel : St → St → Prop} (C : Lx_ p s m meth c b L xs G1 G2) (hin1 : vp_in (i3 + 1) L) (hin2 : vp_in (i3 + 2) L) (hin3 : vp_in (i3 + 3) L) (hin4 : vp_in (i3 + 4) L) (hin5 : vp_in (i3 + 5) L) (hin6 : vp_in (i3 + 6) L) (hin7 : vp_in (i3 + 7) L) (hs : Sim_lay Rel) (hRel : Rel SX SM) (ih : ∀ S1 S2, Rel S1 S2 → RLw e p s m below meth c b G1 G2 1536 [(0, .ref b), (1, .ref (ad_ G1 0)), (2, .ref (ad_ G2 0)), (3, .int i3)] [] S1 S2) : RLw e p s m below meth c b G1 G2 1427 [(0, .ref b), (1, .ref (ad_ G1 0)), (2, .ref (ad_ G2 0)), (3, .int i3)] [] SX SM := by
  refine q_aload_n C 1 dL_law_1427 rfl rfl ?_
  refine q_aload_n C 0 dL_law_1428 rfl rfl ?_
  refine q_iload_n C 3 dL_law_1429 rfl rfl ?_
  refine q_iconst (v := 1) C dL_law_1430 rfl ?_
  refine q_iadd C dL_law_1431 ?_
  refine q_sld C hin1 rfl dL_law_1432 ?_
  refine q_aload_n C 0 dL_law_1433 rfl rfl ?_
  refine q_iload_n C 3 dL_law_1434 rfl rfl ?_
  refine q_iconst (v := 2) C dL_law_1435 rfl ?_
  refine q_iadd C dL_law_1436 ?_
  refine q_sld C hin2 rfl dL_law_1437 ?_
  refine q_aload_n C 0 dL_law_1438 rfl rfl ?_
  refine q_iload_n C 3 dL_law_1439 rfl rfl ?_
  refine q_iconst (v := 3) C dL_law_1440 rfl ?_
  refine q_iadd C dL_law_1441 ?_
  refine q_sld C hin3 rfl dL_law_1442 ?_
  obtain ⟨r, S1, S2, hf1, hf2, hR⟩ := hs _ _ (xs (i3 + 1).toNatClampNeg) (xs (i3 + 2).toNatClampNeg) (xs (i3 + 3).toNatClampNeg) hRel
  refine q_callX (rest := []) C (by decide) (mX11_lay hf1) rfl cb_X11_lay ml_L_166 im_X11_lay se_X11_lay rfl rfl (Nat.le_of_ble_eq_true rfl) dL_law_1443 ?_
  refine q_aload_n C 2 dL_law_1446 rfl rfl ?_
  refine q_aload_n C 0 dL_law_1447 rfl rfl ?_
  refine q_iload_n C 3 dL_law_1448 rfl rfl ?_
  refine q_iconst (v := 1) C dL_law_1449 rfl ?_
  refine q_iadd C dL_law_1450 ?_
  refine q_sld C hin1 rfl dL_law_1451 ?_
  refine q_aload_n C 0 dL_law_1452 rfl rfl ?_
  refine q_iload_n C 3 dL_law_1453 rfl rfl ?_
  refine q_iconst (v := 2) C dL_law_1454 rfl ?_
  refine q_iadd C dL_law_1455 ?_
  refine q_sld C hin2 rfl dL_law_1456 ?_
  refine q_aload_n C 0 dL_law_1457 rfl rfl ?_
  refine q_iload_n C 3 dL_law_1458 rfl rfl ?_
  refine q_iconst (v := 3) C dL_law_1459 rfl ?_
  refine q_iadd C dL_law_1460 ?_
  refine q_sld C hin3 rfl dL_law_1461 ?_
  refine q_callM (rest := [.int r]) C (by decide) (mX12_lay hf2) rfl cb_X12_lay ml_L_169 im_X12_lay se_X12_lay rfl rfl (Nat.le_of_ble_eq_true rfl) dL_law_1462 ?_
  refine q_icmp_eq C 1536 dL_law_1465 (by decide) ?_
  exact ih _ _ hR
def Sim_draw (Rel : St → St → Prop) : Prop := ∀ (SX SM : St) (a1 : Int32) (a2 : Int32) (a3 : Int32), Rel SX SM → ∃ (r : Int32) (S1 : St) (S2 : St), fX11_draw SX a1 a2 a3 = some (r, S1) ∧ fX12_draw SM a1 a2 a3 = some (r, S2) ∧ Rel S1 S2
set_option maxRecDepth 100000 in
set_option maxHeartbeats 4000000 in
theorem law_draw {e : Env} {p : Program} {s : State} {m : MethodId} {below : List Frame} {meth : Method} {c : Code} {b L : Nat} {xs : Nat → Int32} {G1 G2 : Gx} {SX SM : St} {i3 : Int32} {Rel : St → St → Prop} (C : Lx_ p s m meth c b L xs G1 G2) (hin1 : vp_in (i3 + 1) L) (hin2 : vp_in (i3 + 2) L) (hin3 : vp_in (i3 + 3) L) (hin4 : vp_in (i3 + 4) L) (hin5 : vp_in (i3 + 5) L) (hin6 : vp_in (i3 + 6) L) (hin7 : vp_in (i3 + 7) L) (hs : Sim_draw Rel) (hRel : Rel SX SM) (ih : ∀ S1 S2, Rel S1 S2 → RLw e p s m below meth c b G1 G2 1536 [(0, .ref b), (1, .ref (ad_ G1 0)), (2, .ref (ad_ G2 0)), (3, .int i3)] [] S1 S2) : RLw e p s m below meth c b G1 G2 1470 [(0, .ref b), (1, .ref (ad_ G1 0)), (2, .ref (ad_ G2 0)), (3, .int i3)] [] SX SM := by
  refine q_aload_n C 1 dL_law_1470 rfl rfl ?_
  refine q_aload_n C 0 dL_law_1471 rfl rfl ?_
  refine q_iload_n C 3 dL_law_1472 rfl rfl ?_
  refine q_iconst (v := 1) C dL_law_1473 rfl ?_
  refine q_iadd C dL_law_1474 ?_
  refine q_sld C hin1 rfl dL_law_1475 ?_
  refine q_aload_n C 0 dL_law_1476 rfl rfl ?_
  refine q_iload_n C 3 dL_law_1477 rfl rfl ?_
  refine q_iconst (v := 2) C dL_law_1478 rfl ?_
  refine q_iadd C dL_law_1479 ?_
  refine q_sld C hin2 rfl dL_law_1480 ?_
  refine q_aload_n C 0 dL_law_1481 rfl rfl ?_
  refine q_iload_n C 3 dL_law_1482 rfl rfl ?_
  refine q_iconst (v := 3) C dL_law_1483 rfl ?_
  refine q_iadd C dL_law_1484 ?_
  refine q_sld C hin3 rfl dL_law_1485 ?_
  obtain ⟨r, S1, S2, hf1, hf2, hR⟩ := hs _ _ (xs (i3 + 1).toNatClampNeg) (xs (i3 + 2).toNatClampNeg) (xs (i3 + 3).toNatClampNeg) hRel
  refine q_callX (rest := []) C (by decide) (mX11_draw hf1) rfl cb_X11_draw ml_L_170 im_X11_draw se_X11_draw rfl rfl (Nat.le_of_ble_eq_true rfl) dL_law_1486 ?_
  refine q_aload_n C 2 dL_law_1489 rfl rfl ?_
  refine q_aload_n C 0 dL_law_1490 rfl rfl ?_
  refine q_iload_n C 3 dL_law_1491 rfl rfl ?_
  refine q_iconst (v := 1) C dL_law_1492 rfl ?_
  refine q_iadd C dL_law_1493 ?_
  refine q_sld C hin1 rfl dL_law_1494 ?_
  refine q_aload_n C 0 dL_law_1495 rfl rfl ?_
  refine q_iload_n C 3 dL_law_1496 rfl rfl ?_
  refine q_iconst (v := 2) C dL_law_1497 rfl ?_
  refine q_iadd C dL_law_1498 ?_
  refine q_sld C hin2 rfl dL_law_1499 ?_
  refine q_aload_n C 0 dL_law_1500 rfl rfl ?_
  refine q_iload_n C 3 dL_law_1501 rfl rfl ?_
  refine q_iconst (v := 3) C dL_law_1502 rfl ?_
  refine q_iadd C dL_law_1503 ?_
  refine q_sld C hin3 rfl dL_law_1504 ?_
  refine q_callM (rest := [.int r]) C (by decide) (mX12_draw hf2) rfl cb_X12_draw ml_L_173 im_X12_draw se_X12_draw rfl rfl (Nat.le_of_ble_eq_true rfl) dL_law_1505 ?_
  refine q_icmp_eq C 1536 dL_law_1508 (by decide) ?_
  exact ih _ _ hR
def Sim_count (Rel : St → St → Prop) : Prop := ∀ (SX SM : St) (a1 : Int32), Rel SX SM → ∃ (r : Int32) (S2 : St), fX11_count SX a1 = some r ∧ fX12_count SM a1 = some (r, S2) ∧ Rel SX S2
set_option maxRecDepth 100000 in
set_option maxHeartbeats 4000000 in
theorem law_count {e : Env} {p : Program} {s : State} {m : MethodId} {below : List Frame} {meth : Method} {c : Code} {b L : Nat} {xs : Nat → Int32} {G1 G2 : Gx} {SX SM : St} {i3 : Int32} {Rel : St → St → Prop} (C : Lx_ p s m meth c b L xs G1 G2) (hin1 : vp_in (i3 + 1) L) (hin2 : vp_in (i3 + 2) L) (hin3 : vp_in (i3 + 3) L) (hin4 : vp_in (i3 + 4) L) (hin5 : vp_in (i3 + 5) L) (hin6 : vp_in (i3 + 6) L) (hin7 : vp_in (i3 + 7) L) (hs : Sim_count Rel) (hRel : Rel SX SM) (ih : ∀ S1 S2, Rel S1 S2 → RLw e p s m below meth c b G1 G2 1536 [(0, .ref b), (1, .ref (ad_ G1 0)), (2, .ref (ad_ G2 0)), (3, .int i3)] [] S1 S2) : RLw e p s m below meth c b G1 G2 1513 [(0, .ref b), (1, .ref (ad_ G1 0)), (2, .ref (ad_ G2 0)), (3, .int i3)] [] SX SM := by
  refine q_aload_n C 1 dL_law_1513 rfl rfl ?_
  refine q_aload_n C 0 dL_law_1514 rfl rfl ?_
  refine q_iload_n C 3 dL_law_1515 rfl rfl ?_
  refine q_iconst (v := 1) C dL_law_1516 rfl ?_
  refine q_iadd C dL_law_1517 ?_
  refine q_sld C hin1 rfl dL_law_1518 ?_
  obtain ⟨r, S2, hf1, hf2, hR⟩ := hs _ _ (xs (i3 + 1).toNatClampNeg) hRel
  refine q_callX (rest := []) C (by decide) (mX11_count hf1) rfl cb_X11_count ml_L_174 im_X11_count se_X11_count rfl rfl (Nat.le_of_ble_eq_true rfl) dL_law_1519 ?_
  refine q_aload_n C 2 dL_law_1522 rfl rfl ?_
  refine q_aload_n C 0 dL_law_1523 rfl rfl ?_
  refine q_iload_n C 3 dL_law_1524 rfl rfl ?_
  refine q_iconst (v := 1) C dL_law_1525 rfl ?_
  refine q_iadd C dL_law_1526 ?_
  refine q_sld C hin1 rfl dL_law_1527 ?_
  refine q_callM (rest := [.int r]) C (by decide) (mX12_count hf2) rfl cb_X12_count ml_L_177 im_X12_count se_X12_count rfl rfl (Nat.le_of_ble_eq_true rfl) dL_law_1528 ?_
  refine q_icmp_eq C 1536 dL_law_1531 (by decide) ?_
  exact ih _ _ hR
def Sims (Rel : St → St → Prop) : Prop := Sim_burl Rel ∧ Sim_crack Rel ∧ Sim_grain Rel ∧ Sim_shape Rel ∧ Sim_drop Rel ∧ Sim_fits Rel ∧ Sim_open Rel ∧ Sim_most Rel ∧ Sim_cut Rel ∧ Sim_sawn Rel ∧ Sim_costs Rel ∧ Sim_undo Rel ∧ Sim_world Rel ∧ Sim_doubt Rel ∧ Sim_choose Rel ∧ Sim_store Rel ∧ Sim_stored Rel ∧ Sim_age Rel ∧ Sim_order Rel ∧ Sim_filled Rel ∧ Sim_deliver Rel ∧ Sim_gains Rel ∧ Sim_pipe Rel ∧ Sim_told Rel ∧ Sim_feed Rel ∧ Sim_end Rel ∧ Sim_laws Rel ∧ Sim_fault Rel ∧ Sim_stamp Rel ∧ Sim_name Rel ∧ Sim_years Rel ∧ Sim_dated Rel ∧ Sim_lot Rel ∧ Sim_worst Rel ∧ Sim_sheet Rel ∧ Sim_lay Rel ∧ Sim_draw Rel ∧ Sim_count Rel
set_option maxRecDepth 100000 in
set_option maxHeartbeats 4000000 in
theorem law_switch {e : Env} {p : Program} {s : State} {m : MethodId} {below : List Frame} {meth : Method} {c : Code} {b L : Nat} {xs : Nat → Int32} {G1 G2 : Gx} {SX SM : St} {i3 : Int32} {Rel : St → St → Prop} {x : Int32} (C : Lx_ p s m meth c b L xs G1 G2) (hin1 : vp_in (i3 + 1) L) (hin2 : vp_in (i3 + 2) L) (hin3 : vp_in (i3 + 3) L) (hin4 : vp_in (i3 + 4) L) (hin5 : vp_in (i3 + 5) L) (hin6 : vp_in (i3 + 6) L) (hin7 : vp_in (i3 + 7) L) (hs : Sims Rel) (hRel : Rel SX SM) (ih : ∀ S1 S2, Rel S1 S2 → RLw e p s m below meth c b G1 G2 1536 [(0, .ref b), (1, .ref (ad_ G1 0)), (2, .ref (ad_ G2 0)), (3, .int i3)] [] S1 S2) : RLw e p s m below meth c b G1 G2 33 [(0, .ref b), (1, .ref (ad_ G1 0)), (2, .ref (ad_ G2 0)), (3, .int i3)] [.int x] SX SM := by
  obtain ⟨s0, s1, s2, s3, s4, s5, s6, s7, s8, s9, s10, s11, s12, s13, s14, s15, s16, s17, s18, s19, s20, s21, s22, s23, s24, s25, s26, s27, s28, s29, s30, s31, s32, s33, s34, s35, s36, s37⟩ := hs
  by_cases c0 : x = 0
  · exact q_tableIn C 200 dL_law_33 c0 (by decide) (by decide) rfl (by decide) (law_burl C hin1 hin2 hin3 hin4 hin5 hin6 hin7 s0 hRel ih)
  by_cases c1 : x = 1
  · exact q_tableIn C 233 dL_law_33 c1 (by decide) (by decide) rfl (by decide) (law_crack C hin1 hin2 hin3 hin4 hin5 hin6 hin7 s1 hRel ih)
  by_cases c2 : x = 2
  · exact q_tableIn C 292 dL_law_33 c2 (by decide) (by decide) rfl (by decide) (law_grain C hin1 hin2 hin3 hin4 hin5 hin6 hin7 s2 hRel ih)
  by_cases c3 : x = 3
  · exact q_tableIn C 335 dL_law_33 c3 (by decide) (by decide) rfl (by decide) (law_shape C hin1 hin2 hin3 hin4 hin5 hin6 hin7 s3 hRel ih)
  by_cases c4 : x = 4
  · exact q_tableIn C 414 dL_law_33 c4 (by decide) (by decide) rfl (by decide) (law_drop C hin1 hin2 hin3 hin4 hin5 hin6 hin7 s4 hRel ih)
  by_cases c5 : x = 5
  · exact q_tableIn C 427 dL_law_33 c5 (by decide) (by decide) rfl (by decide) (law_fits C hin1 hin2 hin3 hin4 hin5 hin6 hin7 s5 hRel ih)
  by_cases c6 : x = 6
  · exact q_tableIn C 490 dL_law_33 c6 (by decide) (by decide) rfl (by decide) (law_open C hin1 hin2 hin3 hin4 hin5 hin6 hin7 s6 hRel ih)
  by_cases c7 : x = 7
  · exact q_tableIn C 503 dL_law_33 c7 (by decide) (by decide) rfl (by decide) (law_most C hin1 hin2 hin3 hin4 hin5 hin6 hin7 s7 hRel ih)
  by_cases c8 : x = 8
  · exact q_tableIn C 556 dL_law_33 c8 (by decide) (by decide) rfl (by decide) (law_cut C hin1 hin2 hin3 hin4 hin5 hin6 hin7 s8 hRel ih)
  by_cases c9 : x = 9
  · exact q_tableIn C 609 dL_law_33 c9 (by decide) (by decide) rfl (by decide) (law_sawn C hin1 hin2 hin3 hin4 hin5 hin6 hin7 s9 hRel ih)
  by_cases c10 : x = 10
  · exact q_tableIn C 632 dL_law_33 c10 (by decide) (by decide) rfl (by decide) (law_costs C hin1 hin2 hin3 hin4 hin5 hin6 hin7 s10 hRel ih)
  by_cases c11 : x = 11
  · exact q_tableIn C 665 dL_law_33 c11 (by decide) (by decide) rfl (by decide) (law_undo C hin1 hin2 hin3 hin4 hin5 hin6 hin7 s11 hRel ih)
  by_cases c12 : x = 12
  · exact q_tableIn C 678 dL_law_33 c12 (by decide) (by decide) rfl (by decide) (law_world C hin1 hin2 hin3 hin4 hin5 hin6 hin7 s12 hRel ih)
  by_cases c13 : x = 13
  · exact q_tableIn C 691 dL_law_33 c13 (by decide) (by decide) rfl (by decide) (law_doubt C hin1 hin2 hin3 hin4 hin5 hin6 hin7 s13 hRel ih)
  by_cases c14 : x = 14
  · exact q_tableIn C 760 dL_law_33 c14 (by decide) (by decide) rfl (by decide) (law_choose C hin1 hin2 hin3 hin4 hin5 hin6 hin7 s14 hRel ih)
  by_cases c15 : x = 15
  · exact q_tableIn C 783 dL_law_33 c15 (by decide) (by decide) rfl (by decide) (law_store C hin1 hin2 hin3 hin4 hin5 hin6 hin7 s15 hRel ih)
  by_cases c16 : x = 16
  · exact q_tableIn C 836 dL_law_33 c16 (by decide) (by decide) rfl (by decide) (law_stored C hin1 hin2 hin3 hin4 hin5 hin6 hin7 s16 hRel ih)
  by_cases c17 : x = 17
  · exact q_tableIn C 869 dL_law_33 c17 (by decide) (by decide) rfl (by decide) (law_age C hin1 hin2 hin3 hin4 hin5 hin6 hin7 s17 hRel ih)
  by_cases c18 : x = 18
  · exact q_tableIn C 882 dL_law_33 c18 (by decide) (by decide) rfl (by decide) (law_order C hin1 hin2 hin3 hin4 hin5 hin6 hin7 s18 hRel ih)
  by_cases c19 : x = 19
  · exact q_tableIn C 925 dL_law_33 c19 (by decide) (by decide) rfl (by decide) (law_filled C hin1 hin2 hin3 hin4 hin5 hin6 hin7 s19 hRel ih)
  by_cases c20 : x = 20
  · exact q_tableIn C 948 dL_law_33 c20 (by decide) (by decide) rfl (by decide) (law_deliver C hin1 hin2 hin3 hin4 hin5 hin6 hin7 s20 hRel ih)
  by_cases c21 : x = 21
  · exact q_tableIn C 961 dL_law_33 c21 (by decide) (by decide) rfl (by decide) (law_gains C hin1 hin2 hin3 hin4 hin5 hin6 hin7 s21 hRel ih)
  by_cases c22 : x = 22
  · exact q_tableIn C 994 dL_law_33 c22 (by decide) (by decide) rfl (by decide) (law_pipe C hin1 hin2 hin3 hin4 hin5 hin6 hin7 s22 hRel ih)
  by_cases c23 : x = 23
  · exact q_tableIn C 1081 dL_law_33 c23 (by decide) (by decide) rfl (by decide) (law_told C hin1 hin2 hin3 hin4 hin5 hin6 hin7 s23 hRel ih)
  by_cases c24 : x = 24
  · exact q_tableIn C 1114 dL_law_33 c24 (by decide) (by decide) rfl (by decide) (law_feed C hin1 hin2 hin3 hin4 hin5 hin6 hin7 s24 hRel ih)
  by_cases c25 : x = 25
  · exact q_tableIn C 1167 dL_law_33 c25 (by decide) (by decide) rfl (by decide) (law_end C hin1 hin2 hin3 hin4 hin5 hin6 hin7 s25 hRel ih)
  by_cases c26 : x = 26
  · exact q_tableIn C 1190 dL_law_33 c26 (by decide) (by decide) rfl (by decide) (law_laws C hin1 hin2 hin3 hin4 hin5 hin6 hin7 s26 hRel ih)
  by_cases c27 : x = 27
  · exact q_tableIn C 1203 dL_law_33 c27 (by decide) (by decide) rfl (by decide) (law_fault C hin1 hin2 hin3 hin4 hin5 hin6 hin7 s27 hRel ih)
  by_cases c28 : x = 28
  · exact q_tableIn C 1216 dL_law_33 c28 (by decide) (by decide) rfl (by decide) (law_stamp C hin1 hin2 hin3 hin4 hin5 hin6 hin7 s28 hRel ih)
  by_cases c29 : x = 29
  · exact q_tableIn C 1249 dL_law_33 c29 (by decide) (by decide) rfl (by decide) (law_name C hin1 hin2 hin3 hin4 hin5 hin6 hin7 s29 hRel ih)
  by_cases c30 : x = 30
  · exact q_tableIn C 1282 dL_law_33 c30 (by decide) (by decide) rfl (by decide) (law_years C hin1 hin2 hin3 hin4 hin5 hin6 hin7 s30 hRel ih)
  by_cases c31 : x = 31
  · exact q_tableIn C 1315 dL_law_33 c31 (by decide) (by decide) rfl (by decide) (law_dated C hin1 hin2 hin3 hin4 hin5 hin6 hin7 s31 hRel ih)
  by_cases c32 : x = 32
  · exact q_tableIn C 1338 dL_law_33 c32 (by decide) (by decide) rfl (by decide) (law_lot C hin1 hin2 hin3 hin4 hin5 hin6 hin7 s32 hRel ih)
  by_cases c33 : x = 33
  · exact q_tableIn C 1371 dL_law_33 c33 (by decide) (by decide) rfl (by decide) (law_worst C hin1 hin2 hin3 hin4 hin5 hin6 hin7 s33 hRel ih)
  by_cases c34 : x = 34
  · exact q_tableIn C 1384 dL_law_33 c34 (by decide) (by decide) rfl (by decide) (law_sheet C hin1 hin2 hin3 hin4 hin5 hin6 hin7 s34 hRel ih)
  by_cases c35 : x = 35
  · exact q_tableIn C 1427 dL_law_33 c35 (by decide) (by decide) rfl (by decide) (law_lay C hin1 hin2 hin3 hin4 hin5 hin6 hin7 s35 hRel ih)
  by_cases c36 : x = 36
  · exact q_tableIn C 1470 dL_law_33 c36 (by decide) (by decide) rfl (by decide) (law_draw C hin1 hin2 hin3 hin4 hin5 hin6 hin7 s36 hRel ih)
  by_cases c37 : x = 37
  · exact q_tableIn C 1513 dL_law_33 c37 (by decide) (by decide) rfl (by decide) (law_count C hin1 hin2 hin3 hin4 hin5 hin6 hin7 s37 hRel ih)
  have n0 : x.toInt ≠ 0 := ne_toInt c0
  have n1 : x.toInt ≠ 1 := ne_toInt c1
  have n2 : x.toInt ≠ 2 := ne_toInt c2
  have n3 : x.toInt ≠ 3 := ne_toInt c3
  have n4 : x.toInt ≠ 4 := ne_toInt c4
  have n5 : x.toInt ≠ 5 := ne_toInt c5
  have n6 : x.toInt ≠ 6 := ne_toInt c6
  have n7 : x.toInt ≠ 7 := ne_toInt c7
  have n8 : x.toInt ≠ 8 := ne_toInt c8
  have n9 : x.toInt ≠ 9 := ne_toInt c9
  have n10 : x.toInt ≠ 10 := ne_toInt c10
  have n11 : x.toInt ≠ 11 := ne_toInt c11
  have n12 : x.toInt ≠ 12 := ne_toInt c12
  have n13 : x.toInt ≠ 13 := ne_toInt c13
  have n14 : x.toInt ≠ 14 := ne_toInt c14
  have n15 : x.toInt ≠ 15 := ne_toInt c15
  have n16 : x.toInt ≠ 16 := ne_toInt c16
  have n17 : x.toInt ≠ 17 := ne_toInt c17
  have n18 : x.toInt ≠ 18 := ne_toInt c18
  have n19 : x.toInt ≠ 19 := ne_toInt c19
  have n20 : x.toInt ≠ 20 := ne_toInt c20
  have n21 : x.toInt ≠ 21 := ne_toInt c21
  have n22 : x.toInt ≠ 22 := ne_toInt c22
  have n23 : x.toInt ≠ 23 := ne_toInt c23
  have n24 : x.toInt ≠ 24 := ne_toInt c24
  have n25 : x.toInt ≠ 25 := ne_toInt c25
  have n26 : x.toInt ≠ 26 := ne_toInt c26
  have n27 : x.toInt ≠ 27 := ne_toInt c27
  have n28 : x.toInt ≠ 28 := ne_toInt c28
  have n29 : x.toInt ≠ 29 := ne_toInt c29
  have n30 : x.toInt ≠ 30 := ne_toInt c30
  have n31 : x.toInt ≠ 31 := ne_toInt c31
  have n32 : x.toInt ≠ 32 := ne_toInt c32
  have n33 : x.toInt ≠ 33 := ne_toInt c33
  have n34 : x.toInt ≠ 34 := ne_toInt c34
  have n35 : x.toInt ≠ 35 := ne_toInt c35
  have n36 : x.toInt ≠ 36 := ne_toInt c36
  have n37 : x.toInt ≠ 37 := ne_toInt c37
  exact q_tableOut C 1536 dL_law_33 (by omega) (by decide) (ih _ _ hRel)
theorem lw_more {L k : Nat} (hL : L ≤ 4096) (hk : 8 * k ≤ L) (h : ¬ (nI L - 8 < nI (8 * k))) : 8 * k + 8 ≤ L := by
  rcases Nat.lt_or_ge L (8 * k + 8) with q | q
  · exfalso
    apply h
    have e : (nI L - nI 8).toInt = (L : Int) - (8 : Nat) := pk_sub_toInt (by omega) (by omega)
    have e8 : (8 : Int32) = nI 8 := rfl
    rw [e8, Int32.lt_iff_toInt_lt, e, nI_toInt (by omega)]
    omega
  · exact q
theorem lw_ix {L k : Nat} (hL : L ≤ 4096) (hk : 8 * k + 8 ≤ L) (j : Nat) (hj : j < 8) : vp_in (nI (8 * k) + nI j) L := by
  rw [nI_add]
  exact vp_in_nI (by omega) (by omega)
set_option maxRecDepth 100000 in
set_option maxHeartbeats 4000000 in
theorem law_loop {e : Env} {p : Program} {s : State} {m : MethodId} {below : List Frame} {meth : Method} {c : Code} {b L : Nat} {xs : Nat → Int32} {G1 G2 : Gx} {Rel : St → St → Prop} (hL : L ≤ 4096) (C : Lx_ p s m meth c b L xs G1 G2) (hs : Sims Rel) : ∀ (n k : Nat) (i3 : Int32) (SX SM : St), 8 * k ≤ L → L + 1 ≤ 8 * k + n → i3 = nI (8 * k) → Rel SX SM → RLw e p s m below meth c b G1 G2 18 [(0, .ref b), (1, .ref (ad_ G1 0)), (2, .ref (ad_ G2 0)), (3, .int i3)] [] SX SM := by
  intro n
  induction n with
  | zero => intro k i3 SX SM h1 h2; omega
  | succ n ih =>
    intro k i3 SX SM hk hn hi hRel
    refine q_iload_n C 3 dL_law_18 rfl rfl ?_
    refine q_aload_n C 0 dL_law_19 rfl rfl ?_
    refine q_slen C dL_law_20 ?_
    refine q_bipush (v := 8) C dL_law_21 rfl ?_
    refine q_isub C dL_law_23 ?_
    refine q_icmp_gt C 1542 dL_law_24 (by decide) (fun _ => ?_) (fun c1 => ?_)
    · refine q_iconst (v := 1) C dL_law_1542 rfl ?_
      exact q_end C dL_law_1543
    · rw [hi] at c1
      have hm := lw_more hL hk c1
      have hix := fun j hj => lw_ix hL hm j hj
      have h0 : vp_in i3 L := by rw [hi]; exact vp_in_nI (by omega) (by omega)
      refine q_aload_n C 0 dL_law_27 rfl rfl ?_
      refine q_iload_n C 3 dL_law_28 rfl rfl ?_
      refine q_sld C h0 rfl dL_law_29 ?_
      refine q_bipush (v := 63) C dL_law_30 rfl ?_
      refine q_iand C dL_law_32 ?_
      refine law_switch C (by rw [hi]; exact hix 1 (by omega)) (by rw [hi]; exact hix 2 (by omega)) (by rw [hi]; exact hix 3 (by omega)) (by rw [hi]; exact hix 4 (by omega)) (by rw [hi]; exact hix 5 (by omega)) (by rw [hi]; exact hix 6 (by omega)) (by rw [hi]; exact hix 7 (by omega)) hs hRel (fun S1 S2 hR => ?_)
      refine q_iinc (v := i3 + 8) C [(0, .ref b), (1, .ref (ad_ G1 0)), (2, .ref (ad_ G2 0)), (3, .int (i3 + 8))] 3 [1, 2, 3, 0] dL_law_1536 rfl rfl (by decide) rfl ?_
      refine q_goto C 18 dL_law_1539 (by decide) ?_
      exact ih (k + 1) (i3 + 8) S1 S2 (by omega) (by omega) (by rw [hi, show (8 : Int32) = nI 8 from rfl, nI_add]; congr 1) hR
