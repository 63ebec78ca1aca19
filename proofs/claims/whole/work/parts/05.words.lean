theorem tbm (i : Nat) {w : Cond} (h : tables_1[i]? = some w) (hg : goodWord w = true) : w ∈ TB_ := List.mem_filter.mpr ⟨List.mem_append_right _ (List.mem_of_getElem? h), hg⟩
theorem tbs (i : Nat) {q : MethodName × Nat} (h : lw_privs[i]? = some q) : Cond.selects q.1.cls q.1 q.1 ∈ TB_ := List.mem_filter.mpr ⟨List.mem_append_left _ (List.mem_map.mpr ⟨q, List.mem_of_getElem? h, rfl⟩), rfl⟩
theorem u_in {C : String} {T : u_T} {N : Nat} (ps : List Nat) (h : u_ws C T N = ps.filterMap (fun i => tables_1[i]?)) (hg : (u_ws C T N).all goodWord = true) : ∀ w ∈ u_ws C T N, w ∈ TB_ := fun w hw => by
  have hg1 := List.all_eq_true.mp hg w hw
  rw [h] at hw
  obtain ⟨i, -, hi⟩ := List.mem_filterMap.mp hw
  exact tbm i hi hg1
theorem tbX0 : ∀ w ∈ u_ws RX0 TX0 3, w ∈ TB_ := u_in [70, 72, 74] (by decide +kernel) (by decide +kernel)
theorem tbX1 : ∀ w ∈ u_ws RX1 TX1 4, w ∈ TB_ := u_in [47, 49, 51, 53] (by decide +kernel) (by decide +kernel)
theorem tbX2 : ∀ w ∈ u_ws RX2 TX2 7, w ∈ TB_ := u_in [324, 326, 328, 330, 332, 334, 336] (by decide +kernel) (by decide +kernel)
theorem tbX3 : ∀ w ∈ u_ws RX3 TX3 10, w ∈ TB_ := u_in [369, 371, 373, 375, 377, 379, 381, 383, 385, 387] (by decide +kernel) (by decide +kernel)
theorem tbX4 : ∀ w ∈ u_ws RX4 TX4 11, w ∈ TB_ := u_in [221, 223, 225, 227, 229, 231, 233, 235, 237, 239, 241] (by decide +kernel) (by decide +kernel)
theorem tbX5 : ∀ w ∈ u_ws RX5 TX5 7, w ∈ TB_ := u_in [264, 266, 268, 270, 272, 274, 276] (by decide +kernel) (by decide +kernel)
theorem tbX6 : ∀ w ∈ u_ws RX6 TX6 14, w ∈ TB_ := u_in [140, 142, 144, 146, 148, 150, 152, 154, 156, 158, 160, 162, 164, 166] (by decide +kernel) (by decide +kernel)
theorem tbX7 : ∀ w ∈ u_ws RX7 TX7 6, w ∈ TB_ := u_in [102, 104, 106, 108, 110, 112] (by decide +kernel) (by decide +kernel)
theorem tbX8 : ∀ w ∈ u_ws RX8 TX8 3, w ∈ TB_ := u_in [403, 405, 407] (by decide +kernel) (by decide +kernel)
theorem tbX9 : ∀ w ∈ u_ws RX9 TX9 5, w ∈ TB_ := u_in [191, 193, 195, 197, 199] (by decide +kernel) (by decide +kernel)
theorem tbX10 : ∀ w ∈ u_ws RX10 TX10 6, w ∈ TB_ := u_in [296, 298, 300, 302, 304, 306] (by decide +kernel) (by decide +kernel)
theorem tbX11 : ∀ w ∈ u_ws RX11 TX11 14, w ∈ TB_ := u_in [424, 426, 428, 430, 432, 434, 436, 438, 440, 442, 444, 446, 448, 450] (by decide +kernel) (by decide +kernel)
theorem tbX12 : ∀ w ∈ u_ws RX12 TX12 67, w ∈ TB_ := u_in [1208, 1210, 1212, 1214, 1216, 1218, 1220, 1222, 1224, 1226, 1228, 1230, 1232, 1234, 1236, 1238, 1240, 1242, 1244, 1246, 1248, 1250, 1252, 1254, 1256, 1258, 1260, 1262, 1264, 1266, 1268, 1270, 1272, 1274, 1276, 1278, 1280, 1282, 1284, 1286, 1288, 1290, 1292, 1294, 1296, 1298, 1300, 1302, 1304, 1306, 1308, 1310, 1312, 1314, 1316, 1318, 1320, 1322, 1324, 1326, 1328, 1330, 1332, 1334, 1336, 1338, 1340] (by decide +kernel) (by decide +kernel)
theorem fm_X11_10 : Cond.fieldLink RX11 10 (TX11 0).1 (TX11 0).2.1 (TX11 0).2.2.1 ∈ TB_ := tbm 410 (by decide +kernel) (by decide +kernel)
theorem fl_X11_10 : FL_ RX11 10 11 0 := ⟨RX11, TX11, 14, rfl, tbX11, by decide, fm_X11_10⟩
theorem fm_X11_19 : Cond.fieldLink RX11 19 (TX11 1).1 (TX11 1).2.1 (TX11 1).2.2.1 ∈ TB_ := tbm 411 (by decide +kernel) (by decide +kernel)
theorem fl_X11_19 : FL_ RX11 19 11 1 := ⟨RX11, TX11, 14, rfl, tbX11, by decide, fm_X11_19⟩
theorem fm_X11_26 : Cond.fieldLink RX11 26 (TX11 2).1 (TX11 2).2.1 (TX11 2).2.2.1 ∈ TB_ := tbm 412 (by decide +kernel) (by decide +kernel)
theorem fl_X11_26 : FL_ RX11 26 11 2 := ⟨RX11, TX11, 14, rfl, tbX11, by decide, fm_X11_26⟩
theorem fm_X11_35 : Cond.fieldLink RX11 35 (TX11 3).1 (TX11 3).2.1 (TX11 3).2.2.1 ∈ TB_ := tbm 413 (by decide +kernel) (by decide +kernel)
theorem fl_X11_35 : FL_ RX11 35 11 3 := ⟨RX11, TX11, 14, rfl, tbX11, by decide, fm_X11_35⟩
theorem fm_X11_39 : Cond.fieldLink RX11 39 (TX11 4).1 (TX11 4).2.1 (TX11 4).2.2.1 ∈ TB_ := tbm 414 (by decide +kernel) (by decide +kernel)
theorem fl_X11_39 : FL_ RX11 39 11 4 := ⟨RX11, TX11, 14, rfl, tbX11, by decide, fm_X11_39⟩
theorem fm_X11_43 : Cond.fieldLink RX11 43 (TX11 5).1 (TX11 5).2.1 (TX11 5).2.2.1 ∈ TB_ := tbm 415 (by decide +kernel) (by decide +kernel)
theorem fl_X11_43 : FL_ RX11 43 11 5 := ⟨RX11, TX11, 14, rfl, tbX11, by decide, fm_X11_43⟩
theorem pf_X11_43 : PF_ RX11 43 11 5 .int := ⟨RX11, TX11, 14, tyX11, rfl, tbX11, by decide, fm_X11_43, tyX11_ok, nmX11, rfl, by decide +kernel⟩
theorem fm_X11_50 : Cond.fieldLink RX11 50 (TX11 6).1 (TX11 6).2.1 (TX11 6).2.2.1 ∈ TB_ := tbm 416 (by decide +kernel) (by decide +kernel)
theorem fl_X11_50 : FL_ RX11 50 11 6 := ⟨RX11, TX11, 14, rfl, tbX11, by decide, fm_X11_50⟩
theorem fm_X11_59 : Cond.fieldLink RX11 59 (TX11 7).1 (TX11 7).2.1 (TX11 7).2.2.1 ∈ TB_ := tbm 417 (by decide +kernel) (by decide +kernel)
theorem fl_X11_59 : FL_ RX11 59 11 7 := ⟨RX11, TX11, 14, rfl, tbX11, by decide, fm_X11_59⟩
theorem fm_X11_66 : Cond.fieldLink RX11 66 (TX11 8).1 (TX11 8).2.1 (TX11 8).2.2.1 ∈ TB_ := tbm 418 (by decide +kernel) (by decide +kernel)
theorem fl_X11_66 : FL_ RX11 66 11 8 := ⟨RX11, TX11, 14, rfl, tbX11, by decide, fm_X11_66⟩
theorem fm_X11_73 : Cond.fieldLink RX11 73 (TX11 9).1 (TX11 9).2.1 (TX11 9).2.2.1 ∈ TB_ := tbm 419 (by decide +kernel) (by decide +kernel)
theorem fl_X11_73 : FL_ RX11 73 11 9 := ⟨RX11, TX11, 14, rfl, tbX11, by decide, fm_X11_73⟩
theorem fm_X11_82 : Cond.fieldLink RX11 82 (TX11 10).1 (TX11 10).2.1 (TX11 10).2.2.1 ∈ TB_ := tbm 420 (by decide +kernel) (by decide +kernel)
theorem fl_X11_82 : FL_ RX11 82 11 10 := ⟨RX11, TX11, 14, rfl, tbX11, by decide, fm_X11_82⟩
theorem fm_X11_89 : Cond.fieldLink RX11 89 (TX11 11).1 (TX11 11).2.1 (TX11 11).2.2.1 ∈ TB_ := tbm 421 (by decide +kernel) (by decide +kernel)
theorem fl_X11_89 : FL_ RX11 89 11 11 := ⟨RX11, TX11, 14, rfl, tbX11, by decide, fm_X11_89⟩
theorem pf_X11_89 : PF_ RX11 89 11 11 (.object "BurlPipes$Laws") := ⟨RX11, TX11, 14, tyX11, rfl, tbX11, by decide, fm_X11_89, tyX11_ok, nmX11, rfl, by decide +kernel⟩
theorem fm_X11_93 : Cond.fieldLink RX11 93 (TX11 12).1 (TX11 12).2.1 (TX11 12).2.2.1 ∈ TB_ := tbm 422 (by decide +kernel) (by decide +kernel)
theorem fl_X11_93 : FL_ RX11 93 11 12 := ⟨RX11, TX11, 14, rfl, tbX11, by decide, fm_X11_93⟩
theorem pf_X11_93 : PF_ RX11 93 11 12 (.object "BurlPipes$Laws") := ⟨RX11, TX11, 14, tyX11, rfl, tbX11, by decide, fm_X11_93, tyX11_ok, nmX11, rfl, by decide +kernel⟩
theorem fm_X11_98 : Cond.fieldLink RX11 98 (TX11 13).1 (TX11 13).2.1 (TX11 13).2.2.1 ∈ TB_ := tbm 423 (by decide +kernel) (by decide +kernel)
theorem fl_X11_98 : FL_ RX11 98 11 13 := ⟨RX11, TX11, 14, rfl, tbX11, by decide, fm_X11_98⟩
theorem fm_X11_111 : Cond.fieldLink RX11 111 (TX0 2).1 (TX0 2).2.1 (TX0 2).2.2.1 ∈ TB_ := tbm 69 (by decide +kernel) (by decide +kernel)
theorem fl_X11_111 : FL_ RX11 111 0 2 := ⟨RX0, TX0, 3, rfl, tbX0, by decide, fm_X11_111⟩
theorem pf_X11_111 : PF_ RX11 111 0 2 .int := ⟨RX0, TX0, 3, tyX0, rfl, tbX0, by decide, fm_X11_111, tyX0_ok, nmX0, rfl, by decide +kernel⟩
theorem fm_X11_122 : Cond.fieldLink RX11 122 (TX1 2).1 (TX1 2).2.1 (TX1 2).2.2.1 ∈ TB_ := tbm 43 (by decide +kernel) (by decide +kernel)
theorem fl_X11_122 : FL_ RX11 122 1 2 := ⟨RX1, TX1, 4, rfl, tbX1, by decide, fm_X11_122⟩
theorem pf_X11_122 : PF_ RX11 122 1 2 .long := ⟨RX1, TX1, 4, tyX1, rfl, tbX1, by decide, fm_X11_122, tyX1_ok, nmX1, rfl, by decide +kernel⟩
theorem fm_X11_138 : Cond.fieldLink RX11 138 (TX1 3).1 (TX1 3).2.1 (TX1 3).2.2.1 ∈ TB_ := tbm 45 (by decide +kernel) (by decide +kernel)
theorem fl_X11_138 : FL_ RX11 138 1 3 := ⟨RX1, TX1, 4, rfl, tbX1, by decide, fm_X11_138⟩
theorem fm_X11_142 : Cond.fieldLink RX11 142 (TX7 5).1 (TX7 5).2.1 (TX7 5).2.2.1 ∈ TB_ := tbm 100 (by decide +kernel) (by decide +kernel)
theorem fl_X11_142 : FL_ RX11 142 7 5 := ⟨RX7, TX7, 6, rfl, tbX7, by decide, fm_X11_142⟩
theorem pf_X11_142 : PF_ RX11 142 7 5 .int := ⟨RX7, TX7, 6, tyX7, rfl, tbX7, by decide, fm_X11_142, tyX7_ok, nmX7, rfl, by decide +kernel⟩
theorem fm_X11_165 : Cond.fieldLink RX11 165 (TX7 3).1 (TX7 3).2.1 (TX7 3).2.2.1 ∈ TB_ := tbm 94 (by decide +kernel) (by decide +kernel)
theorem fl_X11_165 : FL_ RX11 165 7 3 := ⟨RX7, TX7, 6, rfl, tbX7, by decide, fm_X11_165⟩
theorem fm_X11_171 : Cond.fieldLink RX11 171 (TX7 0).1 (TX7 0).2.1 (TX7 0).2.2.1 ∈ TB_ := tbm 85 (by decide +kernel) (by decide +kernel)
theorem fl_X11_171 : FL_ RX11 171 7 0 := ⟨RX7, TX7, 6, rfl, tbX7, by decide, fm_X11_171⟩
theorem fm_X11_174 : Cond.fieldLink RX11 174 (TX7 1).1 (TX7 1).2.1 (TX7 1).2.2.1 ∈ TB_ := tbm 88 (by decide +kernel) (by decide +kernel)
theorem fl_X11_174 : FL_ RX11 174 7 1 := ⟨RX7, TX7, 6, rfl, tbX7, by decide, fm_X11_174⟩
theorem fm_X11_180 : Cond.fieldLink RX11 180 (TX7 4).1 (TX7 4).2.1 (TX7 4).2.2.1 ∈ TB_ := tbm 98 (by decide +kernel) (by decide +kernel)
theorem fl_X11_180 : FL_ RX11 180 7 4 := ⟨RX7, TX7, 6, rfl, tbX7, by decide, fm_X11_180⟩
theorem fm_X11_201 : Cond.fieldLink RX11 201 (TX6 10).1 (TX6 10).2.1 (TX6 10).2.2.1 ∈ TB_ := tbm 133 (by decide +kernel) (by decide +kernel)
theorem fl_X11_201 : FL_ RX11 201 6 10 := ⟨RX6, TX6, 14, rfl, tbX6, by decide, fm_X11_201⟩
theorem fm_X11_204 : Cond.fieldLink RX11 204 (TX6 11).1 (TX6 11).2.1 (TX6 11).2.2.1 ∈ TB_ := tbm 135 (by decide +kernel) (by decide +kernel)
theorem fl_X11_204 : FL_ RX11 204 6 11 := ⟨RX6, TX6, 14, rfl, tbX6, by decide, fm_X11_204⟩
theorem fm_X11_207 : Cond.fieldLink RX11 207 (TX6 12).1 (TX6 12).2.1 (TX6 12).2.2.1 ∈ TB_ := tbm 137 (by decide +kernel) (by decide +kernel)
theorem fl_X11_207 : FL_ RX11 207 6 12 := ⟨RX6, TX6, 14, rfl, tbX6, by decide, fm_X11_207⟩
theorem fm_X11_210 : Cond.fieldLink RX11 210 (TX6 13).1 (TX6 13).2.1 (TX6 13).2.2.1 ∈ TB_ := tbm 139 (by decide +kernel) (by decide +kernel)
theorem fl_X11_210 : FL_ RX11 210 6 13 := ⟨RX6, TX6, 14, rfl, tbX6, by decide, fm_X11_210⟩
theorem fm_X11_216 : Cond.fieldLink RX11 216 (TX1 0).1 (TX1 0).2.1 (TX1 0).2.2.1 ∈ TB_ := tbm 38 (by decide +kernel) (by decide +kernel)
theorem fl_X11_216 : FL_ RX11 216 1 0 := ⟨RX1, TX1, 4, rfl, tbX1, by decide, fm_X11_216⟩
theorem fm_X11_218 : Cond.fieldLink RX11 218 (TX1 1).1 (TX1 1).2.1 (TX1 1).2.2.1 ∈ TB_ := tbm 41 (by decide +kernel) (by decide +kernel)
theorem fl_X11_218 : FL_ RX11 218 1 1 := ⟨RX1, TX1, 4, rfl, tbX1, by decide, fm_X11_218⟩
theorem fm_X11_251 : Cond.fieldLink RX11 251 (TX9 4).1 (TX9 4).2.1 (TX9 4).2.2.1 ∈ TB_ := tbm 190 (by decide +kernel) (by decide +kernel)
theorem fl_X11_251 : FL_ RX11 251 9 4 := ⟨RX9, TX9, 5, rfl, tbX9, by decide, fm_X11_251⟩
theorem fm_X11_254 : Cond.fieldLink RX11 254 (TX9 0).1 (TX9 0).2.1 (TX9 0).2.2.1 ∈ TB_ := tbm 178 (by decide +kernel) (by decide +kernel)
theorem fl_X11_254 : FL_ RX11 254 9 0 := ⟨RX9, TX9, 5, rfl, tbX9, by decide, fm_X11_254⟩
theorem fm_X11_255 : Cond.fieldLink RX11 255 (TX9 1).1 (TX9 1).2.1 (TX9 1).2.2.1 ∈ TB_ := tbm 181 (by decide +kernel) (by decide +kernel)
theorem fl_X11_255 : FL_ RX11 255 9 1 := ⟨RX9, TX9, 5, rfl, tbX9, by decide, fm_X11_255⟩
theorem fm_X11_256 : Cond.fieldLink RX11 256 (TX9 2).1 (TX9 2).2.1 (TX9 2).2.2.1 ∈ TB_ := tbm 184 (by decide +kernel) (by decide +kernel)
theorem fl_X11_256 : FL_ RX11 256 9 2 := ⟨RX9, TX9, 5, rfl, tbX9, by decide, fm_X11_256⟩
theorem fm_X11_257 : Cond.fieldLink RX11 257 (TX9 3).1 (TX9 3).2.1 (TX9 3).2.2.1 ∈ TB_ := tbm 187 (by decide +kernel) (by decide +kernel)
theorem fl_X11_257 : FL_ RX11 257 9 3 := ⟨RX9, TX9, 5, rfl, tbX9, by decide, fm_X11_257⟩
theorem fm_X11_263 : Cond.fieldLink RX11 263 (TX4 5).1 (TX4 5).2.1 (TX4 5).2.2.1 ∈ TB_ := tbm 214 (by decide +kernel) (by decide +kernel)
theorem fl_X11_263 : FL_ RX11 263 4 5 := ⟨RX4, TX4, 11, rfl, tbX4, by decide, fm_X11_263⟩
theorem fm_X11_270 : Cond.fieldLink RX11 270 (TX4 6).1 (TX4 6).2.1 (TX4 6).2.2.1 ∈ TB_ := tbm 216 (by decide +kernel) (by decide +kernel)
theorem fl_X11_270 : FL_ RX11 270 4 6 := ⟨RX4, TX4, 11, rfl, tbX4, by decide, fm_X11_270⟩
theorem fm_X11_289 : Cond.fieldLink RX11 289 (TX7 2).1 (TX7 2).2.1 (TX7 2).2.2.1 ∈ TB_ := tbm 91 (by decide +kernel) (by decide +kernel)
theorem fl_X11_289 : FL_ RX11 289 7 2 := ⟨RX7, TX7, 6, rfl, tbX7, by decide, fm_X11_289⟩
theorem fm_X11_292 : Cond.fieldLink RX11 292 (TX5 6).1 (TX5 6).2.1 (TX5 6).2.2.1 ∈ TB_ := tbm 263 (by decide +kernel) (by decide +kernel)
theorem fl_X11_292 : FL_ RX11 292 5 6 := ⟨RX5, TX5, 7, rfl, tbX5, by decide, fm_X11_292⟩
theorem fm_X11_299 : Cond.fieldLink RX11 299 (TX5 0).1 (TX5 0).2.1 (TX5 0).2.2.1 ∈ TB_ := tbm 251 (by decide +kernel) (by decide +kernel)
theorem fl_X11_299 : FL_ RX11 299 5 0 := ⟨RX5, TX5, 7, rfl, tbX5, by decide, fm_X11_299⟩
theorem fm_X11_302 : Cond.fieldLink RX11 302 (TX5 1).1 (TX5 1).2.1 (TX5 1).2.2.1 ∈ TB_ := tbm 253 (by decide +kernel) (by decide +kernel)
theorem fl_X11_302 : FL_ RX11 302 5 1 := ⟨RX5, TX5, 7, rfl, tbX5, by decide, fm_X11_302⟩
theorem fm_X11_305 : Cond.fieldLink RX11 305 (TX5 2).1 (TX5 2).2.1 (TX5 2).2.2.1 ∈ TB_ := tbm 255 (by decide +kernel) (by decide +kernel)
theorem fl_X11_305 : FL_ RX11 305 5 2 := ⟨RX5, TX5, 7, rfl, tbX5, by decide, fm_X11_305⟩
theorem fm_X11_308 : Cond.fieldLink RX11 308 (TX5 3).1 (TX5 3).2.1 (TX5 3).2.2.1 ∈ TB_ := tbm 257 (by decide +kernel) (by decide +kernel)
theorem fl_X11_308 : FL_ RX11 308 5 3 := ⟨RX5, TX5, 7, rfl, tbX5, by decide, fm_X11_308⟩
theorem fm_X11_311 : Cond.fieldLink RX11 311 (TX5 4).1 (TX5 4).2.1 (TX5 4).2.2.1 ∈ TB_ := tbm 259 (by decide +kernel) (by decide +kernel)
theorem fl_X11_311 : FL_ RX11 311 5 4 := ⟨RX5, TX5, 7, rfl, tbX5, by decide, fm_X11_311⟩
theorem fm_X11_314 : Cond.fieldLink RX11 314 (TX5 5).1 (TX5 5).2.1 (TX5 5).2.2.1 ∈ TB_ := tbm 261 (by decide +kernel) (by decide +kernel)
theorem fl_X11_314 : FL_ RX11 314 5 5 := ⟨RX5, TX5, 7, rfl, tbX5, by decide, fm_X11_314⟩
theorem fm_X11_323 : Cond.fieldLink RX11 323 (TX10 1).1 (TX10 1).2.1 (TX10 1).2.2.1 ∈ TB_ := tbm 287 (by decide +kernel) (by decide +kernel)
theorem fl_X11_323 : FL_ RX11 323 10 1 := ⟨RX10, TX10, 6, rfl, tbX10, by decide, fm_X11_323⟩
theorem pf_X11_323 : PF_ RX11 323 10 1 .int := ⟨RX10, TX10, 6, tyX10, rfl, tbX10, by decide, fm_X11_323, tyX10_ok, nmX10, rfl, by decide +kernel⟩
theorem fm_X11_333 : Cond.fieldLink RX11 333 (TX2 5).1 (TX2 5).2.1 (TX2 5).2.2.1 ∈ TB_ := tbm 321 (by decide +kernel) (by decide +kernel)
theorem fl_X11_333 : FL_ RX11 333 2 5 := ⟨RX2, TX2, 7, rfl, tbX2, by decide, fm_X11_333⟩
theorem fm_X11_336 : Cond.fieldLink RX11 336 (TX2 6).1 (TX2 6).2.1 (TX2 6).2.2.1 ∈ TB_ := tbm 323 (by decide +kernel) (by decide +kernel)
theorem fl_X11_336 : FL_ RX11 336 2 6 := ⟨RX2, TX2, 7, rfl, tbX2, by decide, fm_X11_336⟩
theorem fm_X11_339 : Cond.fieldLink RX11 339 (TX3 6).1 (TX3 6).2.1 (TX3 6).2.2.1 ∈ TB_ := tbm 364 (by decide +kernel) (by decide +kernel)
theorem fl_X11_339 : FL_ RX11 339 3 6 := ⟨RX3, TX3, 10, rfl, tbX3, by decide, fm_X11_339⟩
theorem fm_X11_340 : Cond.fieldLink RX11 340 (TX3 0).1 (TX3 0).2.1 (TX3 0).2.2.1 ∈ TB_ := tbm 350 (by decide +kernel) (by decide +kernel)
theorem fl_X11_340 : FL_ RX11 340 3 0 := ⟨RX3, TX3, 10, rfl, tbX3, by decide, fm_X11_340⟩
theorem fm_X11_343 : Cond.fieldLink RX11 343 (TX3 1).1 (TX3 1).2.1 (TX3 1).2.2.1 ∈ TB_ := tbm 352 (by decide +kernel) (by decide +kernel)
theorem fl_X11_343 : FL_ RX11 343 3 1 := ⟨RX3, TX3, 10, rfl, tbX3, by decide, fm_X11_343⟩
theorem fm_X11_346 : Cond.fieldLink RX11 346 (TX3 2).1 (TX3 2).2.1 (TX3 2).2.2.1 ∈ TB_ := tbm 354 (by decide +kernel) (by decide +kernel)
theorem fl_X11_346 : FL_ RX11 346 3 2 := ⟨RX3, TX3, 10, rfl, tbX3, by decide, fm_X11_346⟩
theorem fm_X11_349 : Cond.fieldLink RX11 349 (TX3 3).1 (TX3 3).2.1 (TX3 3).2.2.1 ∈ TB_ := tbm 356 (by decide +kernel) (by decide +kernel)
theorem fl_X11_349 : FL_ RX11 349 3 3 := ⟨RX3, TX3, 10, rfl, tbX3, by decide, fm_X11_349⟩
theorem fm_X11_350 : Cond.fieldLink RX11 350 (TX3 4).1 (TX3 4).2.1 (TX3 4).2.2.1 ∈ TB_ := tbm 359 (by decide +kernel) (by decide +kernel)
theorem fl_X11_350 : FL_ RX11 350 3 4 := ⟨RX3, TX3, 10, rfl, tbX3, by decide, fm_X11_350⟩
theorem fm_X11_372 : Cond.fieldLink RX11 372 (TX3 5).1 (TX3 5).2.1 (TX3 5).2.2.1 ∈ TB_ := tbm 361 (by decide +kernel) (by decide +kernel)
theorem fl_X11_372 : FL_ RX11 372 3 5 := ⟨RX3, TX3, 10, rfl, tbX3, by decide, fm_X11_372⟩
theorem fm_X11_393 : Cond.fieldLink RX11 393 (TX8 0).1 (TX8 0).2.1 (TX8 0).2.2.1 ∈ TB_ := tbm 398 (by decide +kernel) (by decide +kernel)
theorem fl_X11_393 : FL_ RX11 393 8 0 := ⟨RX8, TX8, 3, rfl, tbX8, by decide, fm_X11_393⟩
theorem fm_X11_408 : Cond.fieldLink RX11 408 (TX8 2).1 (TX8 2).2.1 (TX8 2).2.2.1 ∈ TB_ := tbm 402 (by decide +kernel) (by decide +kernel)
theorem fl_X11_408 : FL_ RX11 408 8 2 := ⟨RX8, TX8, 3, rfl, tbX8, by decide, fm_X11_408⟩
theorem fm_X11_414 : Cond.fieldLink RX11 414 (TX8 1).1 (TX8 1).2.1 (TX8 1).2.2.1 ∈ TB_ := tbm 400 (by decide +kernel) (by decide +kernel)
theorem fl_X11_414 : FL_ RX11 414 8 1 := ⟨RX8, TX8, 3, rfl, tbX8, by decide, fm_X11_414⟩
theorem fm_X0_11 : Cond.fieldLink RX0 11 (TX0 0).1 (TX0 0).2.1 (TX0 0).2.2.1 ∈ TB_ := tbm 66 (by decide +kernel) (by decide +kernel)
theorem fl_X0_11 : FL_ RX0 11 0 0 := ⟨RX0, TX0, 3, rfl, tbX0, by decide, fm_X0_11⟩
theorem fm_X0_17 : Cond.fieldLink RX0 17 (TX0 1).1 (TX0 1).2.1 (TX0 1).2.2.1 ∈ TB_ := tbm 67 (by decide +kernel) (by decide +kernel)
theorem fl_X0_17 : FL_ RX0 17 0 1 := ⟨RX0, TX0, 3, rfl, tbX0, by decide, fm_X0_17⟩
theorem pf_X0_17 : PF_ RX0 17 0 1 .int := ⟨RX0, TX0, 3, tyX0, rfl, tbX0, by decide, fm_X0_17, tyX0_ok, nmX0, rfl, by decide +kernel⟩
theorem fm_X0_21 : Cond.fieldLink RX0 21 (TX0 2).1 (TX0 2).2.1 (TX0 2).2.2.1 ∈ TB_ := tbm 68 (by decide +kernel) (by decide +kernel)
theorem fl_X0_21 : FL_ RX0 21 0 2 := ⟨RX0, TX0, 3, rfl, tbX0, by decide, fm_X0_21⟩
theorem pf_X0_21 : PF_ RX0 21 0 2 .int := ⟨RX0, TX0, 3, tyX0, rfl, tbX0, by decide, fm_X0_21, tyX0_ok, nmX0, rfl, by decide +kernel⟩
theorem fm_X1_9 : Cond.fieldLink RX1 9 (TX1 0).1 (TX1 0).2.1 (TX1 0).2.2.1 ∈ TB_ := tbm 36 (by decide +kernel) (by decide +kernel)
theorem fl_X1_9 : FL_ RX1 9 1 0 := ⟨RX1, TX1, 4, rfl, tbX1, by decide, fm_X1_9⟩
theorem pf_X1_9 : PF_ RX1 9 1 0 .int := ⟨RX1, TX1, 4, tyX1, rfl, tbX1, by decide, fm_X1_9, tyX1_ok, nmX1, rfl, by decide +kernel⟩
theorem fm_X1_15 : Cond.fieldLink RX1 15 (TX1 1).1 (TX1 1).2.1 (TX1 1).2.2.1 ∈ TB_ := tbm 39 (by decide +kernel) (by decide +kernel)
theorem fl_X1_15 : FL_ RX1 15 1 1 := ⟨RX1, TX1, 4, rfl, tbX1, by decide, fm_X1_15⟩
theorem pf_X1_15 : PF_ RX1 15 1 1 .int := ⟨RX1, TX1, 4, tyX1, rfl, tbX1, by decide, fm_X1_15, tyX1_ok, nmX1, rfl, by decide +kernel⟩
theorem fm_X1_18 : Cond.fieldLink RX1 18 (TX1 2).1 (TX1 2).2.1 (TX1 2).2.2.1 ∈ TB_ := tbm 42 (by decide +kernel) (by decide +kernel)
theorem fl_X1_18 : FL_ RX1 18 1 2 := ⟨RX1, TX1, 4, rfl, tbX1, by decide, fm_X1_18⟩
theorem pf_X1_18 : PF_ RX1 18 1 2 .long := ⟨RX1, TX1, 4, tyX1, rfl, tbX1, by decide, fm_X1_18, tyX1_ok, nmX1, rfl, by decide +kernel⟩
theorem fm_X1_22 : Cond.fieldLink RX1 22 (TX1 3).1 (TX1 3).2.1 (TX1 3).2.2.1 ∈ TB_ := tbm 44 (by decide +kernel) (by decide +kernel)
theorem fl_X1_22 : FL_ RX1 22 1 3 := ⟨RX1, TX1, 4, rfl, tbX1, by decide, fm_X1_22⟩
theorem fm_X2_9 : Cond.fieldLink RX2 9 (TX2 1).1 (TX2 1).2.1 (TX2 1).2.2.1 ∈ TB_ := tbm 316 (by decide +kernel) (by decide +kernel)
theorem fl_X2_9 : FL_ RX2 9 2 1 := ⟨RX2, TX2, 7, rfl, tbX2, by decide, fm_X2_9⟩
theorem pf_X2_9 : PF_ RX2 9 2 1 .int := ⟨RX2, TX2, 7, tyX2, rfl, tbX2, by decide, fm_X2_9, tyX2_ok, nmX2, rfl, by decide +kernel⟩
theorem fm_X2_17 : Cond.fieldLink RX2 17 (TX2 2).1 (TX2 2).2.1 (TX2 2).2.2.1 ∈ TB_ := tbm 317 (by decide +kernel) (by decide +kernel)
theorem fl_X2_17 : FL_ RX2 17 2 2 := ⟨RX2, TX2, 7, rfl, tbX2, by decide, fm_X2_17⟩
theorem pf_X2_17 : PF_ RX2 17 2 2 .int := ⟨RX2, TX2, 7, tyX2, rfl, tbX2, by decide, fm_X2_17, tyX2_ok, nmX2, rfl, by decide +kernel⟩
theorem fm_X2_20 : Cond.fieldLink RX2 20 (TX2 3).1 (TX2 3).2.1 (TX2 3).2.2.1 ∈ TB_ := tbm 318 (by decide +kernel) (by decide +kernel)
theorem fl_X2_20 : FL_ RX2 20 2 3 := ⟨RX2, TX2, 7, rfl, tbX2, by decide, fm_X2_20⟩
theorem pf_X2_20 : PF_ RX2 20 2 3 .int := ⟨RX2, TX2, 7, tyX2, rfl, tbX2, by decide, fm_X2_20, tyX2_ok, nmX2, rfl, by decide +kernel⟩
theorem fm_X2_23 : Cond.fieldLink RX2 23 (TX2 4).1 (TX2 4).2.1 (TX2 4).2.2.1 ∈ TB_ := tbm 319 (by decide +kernel) (by decide +kernel)
theorem fl_X2_23 : FL_ RX2 23 2 4 := ⟨RX2, TX2, 7, rfl, tbX2, by decide, fm_X2_23⟩
theorem pf_X2_23 : PF_ RX2 23 2 4 .int := ⟨RX2, TX2, 7, tyX2, rfl, tbX2, by decide, fm_X2_23, tyX2_ok, nmX2, rfl, by decide +kernel⟩
theorem fm_X2_26 : Cond.fieldLink RX2 26 (TX2 5).1 (TX2 5).2.1 (TX2 5).2.2.1 ∈ TB_ := tbm 320 (by decide +kernel) (by decide +kernel)
theorem fl_X2_26 : FL_ RX2 26 2 5 := ⟨RX2, TX2, 7, rfl, tbX2, by decide, fm_X2_26⟩
theorem pf_X2_26 : PF_ RX2 26 2 5 .int := ⟨RX2, TX2, 7, tyX2, rfl, tbX2, by decide, fm_X2_26, tyX2_ok, nmX2, rfl, by decide +kernel⟩
theorem fm_X2_29 : Cond.fieldLink RX2 29 (TX2 6).1 (TX2 6).2.1 (TX2 6).2.2.1 ∈ TB_ := tbm 322 (by decide +kernel) (by decide +kernel)
theorem fl_X2_29 : FL_ RX2 29 2 6 := ⟨RX2, TX2, 7, rfl, tbX2, by decide, fm_X2_29⟩
theorem pf_X2_29 : PF_ RX2 29 2 6 .int := ⟨RX2, TX2, 7, tyX2, rfl, tbX2, by decide, fm_X2_29, tyX2_ok, nmX2, rfl, by decide +kernel⟩
theorem fm_X2_32 : Cond.fieldLink RX2 32 (TX2 0).1 (TX2 0).2.1 (TX2 0).2.2.1 ∈ TB_ := tbm 315 (by decide +kernel) (by decide +kernel)
theorem fl_X2_32 : FL_ RX2 32 2 0 := ⟨RX2, TX2, 7, rfl, tbX2, by decide, fm_X2_32⟩
theorem fm_X2_73 : Cond.fieldLink RX2 73 (TX3 6).1 (TX3 6).2.1 (TX3 6).2.2.1 ∈ TB_ := tbm 363 (by decide +kernel) (by decide +kernel)
theorem fl_X2_73 : FL_ RX2 73 3 6 := ⟨RX3, TX3, 10, rfl, tbX3, by decide, fm_X2_73⟩
theorem pf_X2_73 : PF_ RX2 73 3 6 .int := ⟨RX3, TX3, 10, tyX3, rfl, tbX3, by decide, fm_X2_73, tyX3_ok, nmX3, rfl, by decide +kernel⟩
theorem fm_X2_91 : Cond.fieldLink RX2 91 (TX3 9).1 (TX3 9).2.1 (TX3 9).2.2.1 ∈ TB_ := tbm 368 (by decide +kernel) (by decide +kernel)
theorem fl_X2_91 : FL_ RX2 91 3 9 := ⟨RX3, TX3, 10, rfl, tbX3, by decide, fm_X2_91⟩
theorem fm_X2_111 : Cond.fieldLink RX2 111 (TX3 4).1 (TX3 4).2.1 (TX3 4).2.2.1 ∈ TB_ := tbm 358 (by decide +kernel) (by decide +kernel)
theorem fl_X2_111 : FL_ RX2 111 3 4 := ⟨RX3, TX3, 10, rfl, tbX3, by decide, fm_X2_111⟩
theorem fm_X2_115 : Cond.fieldLink RX2 115 (TX10 2).1 (TX10 2).2.1 (TX10 2).2.2.1 ∈ TB_ := tbm 289 (by decide +kernel) (by decide +kernel)
theorem fl_X2_115 : FL_ RX2 115 10 2 := ⟨RX10, TX10, 6, rfl, tbX10, by decide, fm_X2_115⟩
theorem fm_X2_118 : Cond.fieldLink RX2 118 (TX10 3).1 (TX10 3).2.1 (TX10 3).2.2.1 ∈ TB_ := tbm 291 (by decide +kernel) (by decide +kernel)
theorem fl_X2_118 : FL_ RX2 118 10 3 := ⟨RX10, TX10, 6, rfl, tbX10, by decide, fm_X2_118⟩
theorem fm_X2_121 : Cond.fieldLink RX2 121 (TX10 4).1 (TX10 4).2.1 (TX10 4).2.2.1 ∈ TB_ := tbm 293 (by decide +kernel) (by decide +kernel)
theorem fl_X2_121 : FL_ RX2 121 10 4 := ⟨RX10, TX10, 6, rfl, tbX10, by decide, fm_X2_121⟩
theorem fm_X2_124 : Cond.fieldLink RX2 124 (TX10 5).1 (TX10 5).2.1 (TX10 5).2.2.1 ∈ TB_ := tbm 295 (by decide +kernel) (by decide +kernel)
theorem fl_X2_124 : FL_ RX2 124 10 5 := ⟨RX10, TX10, 6, rfl, tbX10, by decide, fm_X2_124⟩
theorem fm_X3_9 : Cond.fieldLink RX3 9 (TX3 0).1 (TX3 0).2.1 (TX3 0).2.2.1 ∈ TB_ := tbm 349 (by decide +kernel) (by decide +kernel)
theorem fl_X3_9 : FL_ RX3 9 3 0 := ⟨RX3, TX3, 10, rfl, tbX3, by decide, fm_X3_9⟩
theorem fm_X3_15 : Cond.fieldLink RX3 15 (TX3 1).1 (TX3 1).2.1 (TX3 1).2.2.1 ∈ TB_ := tbm 351 (by decide +kernel) (by decide +kernel)
theorem fl_X3_15 : FL_ RX3 15 3 1 := ⟨RX3, TX3, 10, rfl, tbX3, by decide, fm_X3_15⟩
theorem fm_X3_18 : Cond.fieldLink RX3 18 (TX3 2).1 (TX3 2).2.1 (TX3 2).2.2.1 ∈ TB_ := tbm 353 (by decide +kernel) (by decide +kernel)
theorem fl_X3_18 : FL_ RX3 18 3 2 := ⟨RX3, TX3, 10, rfl, tbX3, by decide, fm_X3_18⟩
theorem fm_X3_21 : Cond.fieldLink RX3 21 (TX3 3).1 (TX3 3).2.1 (TX3 3).2.2.1 ∈ TB_ := tbm 355 (by decide +kernel) (by decide +kernel)
theorem fl_X3_21 : FL_ RX3 21 3 3 := ⟨RX3, TX3, 10, rfl, tbX3, by decide, fm_X3_21⟩
theorem fm_X3_24 : Cond.fieldLink RX3 24 (TX3 4).1 (TX3 4).2.1 (TX3 4).2.2.1 ∈ TB_ := tbm 357 (by decide +kernel) (by decide +kernel)
theorem fl_X3_24 : FL_ RX3 24 3 4 := ⟨RX3, TX3, 10, rfl, tbX3, by decide, fm_X3_24⟩
theorem fm_X3_27 : Cond.fieldLink RX3 27 (TX3 5).1 (TX3 5).2.1 (TX3 5).2.2.1 ∈ TB_ := tbm 360 (by decide +kernel) (by decide +kernel)
theorem fl_X3_27 : FL_ RX3 27 3 5 := ⟨RX3, TX3, 10, rfl, tbX3, by decide, fm_X3_27⟩
theorem pf_X3_27 : PF_ RX3 27 3 5 .int := ⟨RX3, TX3, 10, tyX3, rfl, tbX3, by decide, fm_X3_27, tyX3_ok, nmX3, rfl, by decide +kernel⟩
theorem fm_X3_31 : Cond.fieldLink RX3 31 (TX3 6).1 (TX3 6).2.1 (TX3 6).2.2.1 ∈ TB_ := tbm 362 (by decide +kernel) (by decide +kernel)
theorem fl_X3_31 : FL_ RX3 31 3 6 := ⟨RX3, TX3, 10, rfl, tbX3, by decide, fm_X3_31⟩
theorem pf_X3_31 : PF_ RX3 31 3 6 .int := ⟨RX3, TX3, 10, tyX3, rfl, tbX3, by decide, fm_X3_31, tyX3_ok, nmX3, rfl, by decide +kernel⟩
theorem fm_X3_34 : Cond.fieldLink RX3 34 (TX3 7).1 (TX3 7).2.1 (TX3 7).2.2.1 ∈ TB_ := tbm 365 (by decide +kernel) (by decide +kernel)
theorem fl_X3_34 : FL_ RX3 34 3 7 := ⟨RX3, TX3, 10, rfl, tbX3, by decide, fm_X3_34⟩
theorem pf_X3_34 : PF_ RX3 34 3 7 .int := ⟨RX3, TX3, 10, tyX3, rfl, tbX3, by decide, fm_X3_34, tyX3_ok, nmX3, rfl, by decide +kernel⟩
theorem fm_X3_37 : Cond.fieldLink RX3 37 (TX3 8).1 (TX3 8).2.1 (TX3 8).2.2.1 ∈ TB_ := tbm 366 (by decide +kernel) (by decide +kernel)
theorem fl_X3_37 : FL_ RX3 37 3 8 := ⟨RX3, TX3, 10, rfl, tbX3, by decide, fm_X3_37⟩
theorem pf_X3_37 : PF_ RX3 37 3 8 .int := ⟨RX3, TX3, 10, tyX3, rfl, tbX3, by decide, fm_X3_37, tyX3_ok, nmX3, rfl, by decide +kernel⟩
theorem fm_X3_40 : Cond.fieldLink RX3 40 (TX3 9).1 (TX3 9).2.1 (TX3 9).2.2.1 ∈ TB_ := tbm 367 (by decide +kernel) (by decide +kernel)
theorem fl_X3_40 : FL_ RX3 40 3 9 := ⟨RX3, TX3, 10, rfl, tbX3, by decide, fm_X3_40⟩
theorem pf_X3_40 : PF_ RX3 40 3 9 .boolean := ⟨RX3, TX3, 10, tyX3, rfl, tbX3, by decide, fm_X3_40, tyX3_ok, nmX3, rfl, by decide +kernel⟩
theorem fm_X4_9 : Cond.fieldLink RX4 9 (TX4 2).1 (TX4 2).2.1 (TX4 2).2.2.1 ∈ TB_ := tbm 210 (by decide +kernel) (by decide +kernel)
theorem fl_X4_9 : FL_ RX4 9 4 2 := ⟨RX4, TX4, 11, rfl, tbX4, by decide, fm_X4_9⟩
theorem fm_X4_15 : Cond.fieldLink RX4 15 (TX4 3).1 (TX4 3).2.1 (TX4 3).2.2.1 ∈ TB_ := tbm 211 (by decide +kernel) (by decide +kernel)
theorem fl_X4_15 : FL_ RX4 15 4 3 := ⟨RX4, TX4, 11, rfl, tbX4, by decide, fm_X4_15⟩
theorem fm_X4_18 : Cond.fieldLink RX4 18 (TX4 4).1 (TX4 4).2.1 (TX4 4).2.2.1 ∈ TB_ := tbm 212 (by decide +kernel) (by decide +kernel)
theorem fl_X4_18 : FL_ RX4 18 4 4 := ⟨RX4, TX4, 11, rfl, tbX4, by decide, fm_X4_18⟩
theorem fm_X4_21 : Cond.fieldLink RX4 21 (TX4 5).1 (TX4 5).2.1 (TX4 5).2.2.1 ∈ TB_ := tbm 213 (by decide +kernel) (by decide +kernel)
theorem fl_X4_21 : FL_ RX4 21 4 5 := ⟨RX4, TX4, 11, rfl, tbX4, by decide, fm_X4_21⟩
theorem pf_X4_21 : PF_ RX4 21 4 5 .int := ⟨RX4, TX4, 11, tyX4, rfl, tbX4, by decide, fm_X4_21, tyX4_ok, nmX4, rfl, by decide +kernel⟩
theorem fm_X4_25 : Cond.fieldLink RX4 25 (TX4 6).1 (TX4 6).2.1 (TX4 6).2.2.1 ∈ TB_ := tbm 215 (by decide +kernel) (by decide +kernel)
theorem fl_X4_25 : FL_ RX4 25 4 6 := ⟨RX4, TX4, 11, rfl, tbX4, by decide, fm_X4_25⟩
theorem fm_X4_28 : Cond.fieldLink RX4 28 (TX4 7).1 (TX4 7).2.1 (TX4 7).2.2.1 ∈ TB_ := tbm 217 (by decide +kernel) (by decide +kernel)
theorem fl_X4_28 : FL_ RX4 28 4 7 := ⟨RX4, TX4, 11, rfl, tbX4, by decide, fm_X4_28⟩
theorem fm_X4_31 : Cond.fieldLink RX4 31 (TX4 8).1 (TX4 8).2.1 (TX4 8).2.2.1 ∈ TB_ := tbm 218 (by decide +kernel) (by decide +kernel)
theorem fl_X4_31 : FL_ RX4 31 4 8 := ⟨RX4, TX4, 11, rfl, tbX4, by decide, fm_X4_31⟩
theorem fm_X4_34 : Cond.fieldLink RX4 34 (TX4 9).1 (TX4 9).2.1 (TX4 9).2.2.1 ∈ TB_ := tbm 219 (by decide +kernel) (by decide +kernel)
theorem fl_X4_34 : FL_ RX4 34 4 9 := ⟨RX4, TX4, 11, rfl, tbX4, by decide, fm_X4_34⟩
theorem pf_X4_34 : PF_ RX4 34 4 9 .int := ⟨RX4, TX4, 11, tyX4, rfl, tbX4, by decide, fm_X4_34, tyX4_ok, nmX4, rfl, by decide +kernel⟩
theorem fm_X4_37 : Cond.fieldLink RX4 37 (TX4 10).1 (TX4 10).2.1 (TX4 10).2.2.1 ∈ TB_ := tbm 220 (by decide +kernel) (by decide +kernel)
theorem fl_X4_37 : FL_ RX4 37 4 10 := ⟨RX4, TX4, 11, rfl, tbX4, by decide, fm_X4_37⟩
theorem pf_X4_37 : PF_ RX4 37 4 10 .int := ⟨RX4, TX4, 11, tyX4, rfl, tbX4, by decide, fm_X4_37, tyX4_ok, nmX4, rfl, by decide +kernel⟩
theorem fm_X4_40 : Cond.fieldLink RX4 40 (TX4 0).1 (TX4 0).2.1 (TX4 0).2.2.1 ∈ TB_ := tbm 208 (by decide +kernel) (by decide +kernel)
theorem fl_X4_40 : FL_ RX4 40 4 0 := ⟨RX4, TX4, 11, rfl, tbX4, by decide, fm_X4_40⟩
theorem fm_X4_44 : Cond.fieldLink RX4 44 (TX4 1).1 (TX4 1).2.1 (TX4 1).2.2.1 ∈ TB_ := tbm 209 (by decide +kernel) (by decide +kernel)
theorem fl_X4_44 : FL_ RX4 44 4 1 := ⟨RX4, TX4, 11, rfl, tbX4, by decide, fm_X4_44⟩
theorem fm_X4_48 : Cond.fieldLink RX4 48 (TX9 0).1 (TX9 0).2.1 (TX9 0).2.2.1 ∈ TB_ := tbm 177 (by decide +kernel) (by decide +kernel)
theorem fl_X4_48 : FL_ RX4 48 9 0 := ⟨RX9, TX9, 5, rfl, tbX9, by decide, fm_X4_48⟩
theorem fm_X4_53 : Cond.fieldLink RX4 53 (TX9 1).1 (TX9 1).2.1 (TX9 1).2.2.1 ∈ TB_ := tbm 180 (by decide +kernel) (by decide +kernel)
theorem fl_X4_53 : FL_ RX4 53 9 1 := ⟨RX9, TX9, 5, rfl, tbX9, by decide, fm_X4_53⟩
theorem fm_X4_62 : Cond.fieldLink RX4 62 (TX9 2).1 (TX9 2).2.1 (TX9 2).2.2.1 ∈ TB_ := tbm 183 (by decide +kernel) (by decide +kernel)
theorem fl_X4_62 : FL_ RX4 62 9 2 := ⟨RX9, TX9, 5, rfl, tbX9, by decide, fm_X4_62⟩
theorem fm_X4_65 : Cond.fieldLink RX4 65 (TX7 3).1 (TX7 3).2.1 (TX7 3).2.2.1 ∈ TB_ := tbm 93 (by decide +kernel) (by decide +kernel)
theorem fl_X4_65 : FL_ RX4 65 7 3 := ⟨RX7, TX7, 6, rfl, tbX7, by decide, fm_X4_65⟩
theorem fm_X4_68 : Cond.fieldLink RX4 68 (TX9 3).1 (TX9 3).2.1 (TX9 3).2.2.1 ∈ TB_ := tbm 186 (by decide +kernel) (by decide +kernel)
theorem fl_X4_68 : FL_ RX4 68 9 3 := ⟨RX9, TX9, 5, rfl, tbX9, by decide, fm_X4_68⟩
theorem fm_X4_78 : Cond.fieldLink RX4 78 (TX9 4).1 (TX9 4).2.1 (TX9 4).2.2.1 ∈ TB_ := tbm 189 (by decide +kernel) (by decide +kernel)
theorem fl_X4_78 : FL_ RX4 78 9 4 := ⟨RX9, TX9, 5, rfl, tbX9, by decide, fm_X4_78⟩
theorem fm_X5_9 : Cond.fieldLink RX5 9 (TX5 0).1 (TX5 0).2.1 (TX5 0).2.2.1 ∈ TB_ := tbm 250 (by decide +kernel) (by decide +kernel)
theorem fl_X5_9 : FL_ RX5 9 5 0 := ⟨RX5, TX5, 7, rfl, tbX5, by decide, fm_X5_9⟩
theorem fm_X5_15 : Cond.fieldLink RX5 15 (TX5 1).1 (TX5 1).2.1 (TX5 1).2.2.1 ∈ TB_ := tbm 252 (by decide +kernel) (by decide +kernel)
theorem fl_X5_15 : FL_ RX5 15 5 1 := ⟨RX5, TX5, 7, rfl, tbX5, by decide, fm_X5_15⟩
theorem fm_X5_18 : Cond.fieldLink RX5 18 (TX5 2).1 (TX5 2).2.1 (TX5 2).2.2.1 ∈ TB_ := tbm 254 (by decide +kernel) (by decide +kernel)
theorem fl_X5_18 : FL_ RX5 18 5 2 := ⟨RX5, TX5, 7, rfl, tbX5, by decide, fm_X5_18⟩
theorem fm_X5_21 : Cond.fieldLink RX5 21 (TX5 3).1 (TX5 3).2.1 (TX5 3).2.2.1 ∈ TB_ := tbm 256 (by decide +kernel) (by decide +kernel)
theorem fl_X5_21 : FL_ RX5 21 5 3 := ⟨RX5, TX5, 7, rfl, tbX5, by decide, fm_X5_21⟩
theorem fm_X5_24 : Cond.fieldLink RX5 24 (TX5 4).1 (TX5 4).2.1 (TX5 4).2.2.1 ∈ TB_ := tbm 258 (by decide +kernel) (by decide +kernel)
theorem fl_X5_24 : FL_ RX5 24 5 4 := ⟨RX5, TX5, 7, rfl, tbX5, by decide, fm_X5_24⟩
theorem fm_X5_27 : Cond.fieldLink RX5 27 (TX5 5).1 (TX5 5).2.1 (TX5 5).2.2.1 ∈ TB_ := tbm 260 (by decide +kernel) (by decide +kernel)
theorem fl_X5_27 : FL_ RX5 27 5 5 := ⟨RX5, TX5, 7, rfl, tbX5, by decide, fm_X5_27⟩
theorem fm_X5_30 : Cond.fieldLink RX5 30 (TX5 6).1 (TX5 6).2.1 (TX5 6).2.2.1 ∈ TB_ := tbm 262 (by decide +kernel) (by decide +kernel)
theorem fl_X5_30 : FL_ RX5 30 5 6 := ⟨RX5, TX5, 7, rfl, tbX5, by decide, fm_X5_30⟩
theorem pf_X5_30 : PF_ RX5 30 5 6 .int := ⟨RX5, TX5, 7, tyX5, rfl, tbX5, by decide, fm_X5_30, tyX5_ok, nmX5, rfl, by decide +kernel⟩
theorem fm_X6_9 : Cond.fieldLink RX6 9 (TX6 2).1 (TX6 2).2.1 (TX6 2).2.2.1 ∈ TB_ := tbm 124 (by decide +kernel) (by decide +kernel)
theorem fl_X6_9 : FL_ RX6 9 6 2 := ⟨RX6, TX6, 14, rfl, tbX6, by decide, fm_X6_9⟩
theorem fm_X6_15 : Cond.fieldLink RX6 15 (TX6 3).1 (TX6 3).2.1 (TX6 3).2.2.1 ∈ TB_ := tbm 125 (by decide +kernel) (by decide +kernel)
theorem fl_X6_15 : FL_ RX6 15 6 3 := ⟨RX6, TX6, 14, rfl, tbX6, by decide, fm_X6_15⟩
theorem pf_X6_15 : PF_ RX6 15 6 3 .int := ⟨RX6, TX6, 14, tyX6, rfl, tbX6, by decide, fm_X6_15, tyX6_ok, nmX6, rfl, by decide +kernel⟩
theorem fm_X6_19 : Cond.fieldLink RX6 19 (TX6 4).1 (TX6 4).2.1 (TX6 4).2.2.1 ∈ TB_ := tbm 126 (by decide +kernel) (by decide +kernel)
theorem fl_X6_19 : FL_ RX6 19 6 4 := ⟨RX6, TX6, 14, rfl, tbX6, by decide, fm_X6_19⟩
theorem fm_X6_23 : Cond.fieldLink RX6 23 (TX6 5).1 (TX6 5).2.1 (TX6 5).2.2.1 ∈ TB_ := tbm 127 (by decide +kernel) (by decide +kernel)
theorem fl_X6_23 : FL_ RX6 23 6 5 := ⟨RX6, TX6, 14, rfl, tbX6, by decide, fm_X6_23⟩
theorem fm_X6_26 : Cond.fieldLink RX6 26 (TX6 6).1 (TX6 6).2.1 (TX6 6).2.2.1 ∈ TB_ := tbm 128 (by decide +kernel) (by decide +kernel)
theorem fl_X6_26 : FL_ RX6 26 6 6 := ⟨RX6, TX6, 14, rfl, tbX6, by decide, fm_X6_26⟩
theorem fm_X6_29 : Cond.fieldLink RX6 29 (TX6 7).1 (TX6 7).2.1 (TX6 7).2.2.1 ∈ TB_ := tbm 129 (by decide +kernel) (by decide +kernel)
theorem fl_X6_29 : FL_ RX6 29 6 7 := ⟨RX6, TX6, 14, rfl, tbX6, by decide, fm_X6_29⟩
theorem fm_X6_32 : Cond.fieldLink RX6 32 (TX6 8).1 (TX6 8).2.1 (TX6 8).2.2.1 ∈ TB_ := tbm 130 (by decide +kernel) (by decide +kernel)
theorem fl_X6_32 : FL_ RX6 32 6 8 := ⟨RX6, TX6, 14, rfl, tbX6, by decide, fm_X6_32⟩
theorem fm_X6_35 : Cond.fieldLink RX6 35 (TX6 9).1 (TX6 9).2.1 (TX6 9).2.2.1 ∈ TB_ := tbm 131 (by decide +kernel) (by decide +kernel)
theorem fl_X6_35 : FL_ RX6 35 6 9 := ⟨RX6, TX6, 14, rfl, tbX6, by decide, fm_X6_35⟩
theorem fm_X6_38 : Cond.fieldLink RX6 38 (TX6 10).1 (TX6 10).2.1 (TX6 10).2.2.1 ∈ TB_ := tbm 132 (by decide +kernel) (by decide +kernel)
theorem fl_X6_38 : FL_ RX6 38 6 10 := ⟨RX6, TX6, 14, rfl, tbX6, by decide, fm_X6_38⟩
theorem fm_X6_41 : Cond.fieldLink RX6 41 (TX6 11).1 (TX6 11).2.1 (TX6 11).2.2.1 ∈ TB_ := tbm 134 (by decide +kernel) (by decide +kernel)
theorem fl_X6_41 : FL_ RX6 41 6 11 := ⟨RX6, TX6, 14, rfl, tbX6, by decide, fm_X6_41⟩
theorem pf_X6_41 : PF_ RX6 41 6 11 .int := ⟨RX6, TX6, 14, tyX6, rfl, tbX6, by decide, fm_X6_41, tyX6_ok, nmX6, rfl, by decide +kernel⟩
theorem fm_X6_44 : Cond.fieldLink RX6 44 (TX6 12).1 (TX6 12).2.1 (TX6 12).2.2.1 ∈ TB_ := tbm 136 (by decide +kernel) (by decide +kernel)
theorem fl_X6_44 : FL_ RX6 44 6 12 := ⟨RX6, TX6, 14, rfl, tbX6, by decide, fm_X6_44⟩
theorem pf_X6_44 : PF_ RX6 44 6 12 .int := ⟨RX6, TX6, 14, tyX6, rfl, tbX6, by decide, fm_X6_44, tyX6_ok, nmX6, rfl, by decide +kernel⟩
theorem fm_X6_47 : Cond.fieldLink RX6 47 (TX6 13).1 (TX6 13).2.1 (TX6 13).2.2.1 ∈ TB_ := tbm 138 (by decide +kernel) (by decide +kernel)
theorem fl_X6_47 : FL_ RX6 47 6 13 := ⟨RX6, TX6, 14, rfl, tbX6, by decide, fm_X6_47⟩
theorem pf_X6_47 : PF_ RX6 47 6 13 .int := ⟨RX6, TX6, 14, tyX6, rfl, tbX6, by decide, fm_X6_47, tyX6_ok, nmX6, rfl, by decide +kernel⟩
theorem fm_X6_50 : Cond.fieldLink RX6 50 (TX6 0).1 (TX6 0).2.1 (TX6 0).2.2.1 ∈ TB_ := tbm 122 (by decide +kernel) (by decide +kernel)
theorem fl_X6_50 : FL_ RX6 50 6 0 := ⟨RX6, TX6, 14, rfl, tbX6, by decide, fm_X6_50⟩
theorem fm_X6_54 : Cond.fieldLink RX6 54 (TX6 1).1 (TX6 1).2.1 (TX6 1).2.2.1 ∈ TB_ := tbm 123 (by decide +kernel) (by decide +kernel)
theorem fl_X6_54 : FL_ RX6 54 6 1 := ⟨RX6, TX6, 14, rfl, tbX6, by decide, fm_X6_54⟩
theorem fm_X6_76 : Cond.fieldLink RX6 76 (TX1 1).1 (TX1 1).2.1 (TX1 1).2.2.1 ∈ TB_ := tbm 40 (by decide +kernel) (by decide +kernel)
theorem fl_X6_76 : FL_ RX6 76 1 1 := ⟨RX1, TX1, 4, rfl, tbX1, by decide, fm_X6_76⟩
theorem fm_X6_81 : Cond.fieldLink RX6 81 (TX1 0).1 (TX1 0).2.1 (TX1 0).2.2.1 ∈ TB_ := tbm 37 (by decide +kernel) (by decide +kernel)
theorem fl_X6_81 : FL_ RX6 81 1 0 := ⟨RX1, TX1, 4, rfl, tbX1, by decide, fm_X6_81⟩
theorem fm_X6_84 : Cond.fieldLink RX6 84 (TX1 3).1 (TX1 3).2.1 (TX1 3).2.2.1 ∈ TB_ := tbm 46 (by decide +kernel) (by decide +kernel)
theorem fl_X6_84 : FL_ RX6 84 1 3 := ⟨RX1, TX1, 4, rfl, tbX1, by decide, fm_X6_84⟩
theorem fm_X6_91 : Cond.fieldLink RX6 91 (TX7 5).1 (TX7 5).2.1 (TX7 5).2.2.1 ∈ TB_ := tbm 101 (by decide +kernel) (by decide +kernel)
theorem fl_X6_91 : FL_ RX6 91 7 5 := ⟨RX7, TX7, 6, rfl, tbX7, by decide, fm_X6_91⟩
theorem fm_X6_96 : Cond.fieldLink RX6 96 (TX7 0).1 (TX7 0).2.1 (TX7 0).2.2.1 ∈ TB_ := tbm 84 (by decide +kernel) (by decide +kernel)
theorem fl_X6_96 : FL_ RX6 96 7 0 := ⟨RX7, TX7, 6, rfl, tbX7, by decide, fm_X6_96⟩
theorem fm_X6_98 : Cond.fieldLink RX6 98 (TX7 1).1 (TX7 1).2.1 (TX7 1).2.2.1 ∈ TB_ := tbm 87 (by decide +kernel) (by decide +kernel)
theorem fl_X6_98 : FL_ RX6 98 7 1 := ⟨RX7, TX7, 6, rfl, tbX7, by decide, fm_X6_98⟩
theorem fm_X6_100 : Cond.fieldLink RX6 100 (TX7 4).1 (TX7 4).2.1 (TX7 4).2.2.1 ∈ TB_ := tbm 97 (by decide +kernel) (by decide +kernel)
theorem fl_X6_100 : FL_ RX6 100 7 4 := ⟨RX7, TX7, 6, rfl, tbX7, by decide, fm_X6_100⟩
theorem fm_X6_121 : Cond.fieldLink RX6 121 (TX7 3).1 (TX7 3).2.1 (TX7 3).2.2.1 ∈ TB_ := tbm 95 (by decide +kernel) (by decide +kernel)
theorem fl_X6_121 : FL_ RX6 121 7 3 := ⟨RX7, TX7, 6, rfl, tbX7, by decide, fm_X6_121⟩
theorem fm_X6_124 : Cond.fieldLink RX6 124 (TX7 2).1 (TX7 2).2.1 (TX7 2).2.2.1 ∈ TB_ := tbm 90 (by decide +kernel) (by decide +kernel)
theorem fl_X6_124 : FL_ RX6 124 7 2 := ⟨RX7, TX7, 6, rfl, tbX7, by decide, fm_X6_124⟩
theorem fm_X7_9 : Cond.fieldLink RX7 9 (TX7 0).1 (TX7 0).2.1 (TX7 0).2.2.1 ∈ TB_ := tbm 83 (by decide +kernel) (by decide +kernel)
theorem fl_X7_9 : FL_ RX7 9 7 0 := ⟨RX7, TX7, 6, rfl, tbX7, by decide, fm_X7_9⟩
theorem fm_X7_15 : Cond.fieldLink RX7 15 (TX7 1).1 (TX7 1).2.1 (TX7 1).2.2.1 ∈ TB_ := tbm 86 (by decide +kernel) (by decide +kernel)
theorem fl_X7_15 : FL_ RX7 15 7 1 := ⟨RX7, TX7, 6, rfl, tbX7, by decide, fm_X7_15⟩
theorem fm_X7_18 : Cond.fieldLink RX7 18 (TX7 2).1 (TX7 2).2.1 (TX7 2).2.2.1 ∈ TB_ := tbm 89 (by decide +kernel) (by decide +kernel)
theorem fl_X7_18 : FL_ RX7 18 7 2 := ⟨RX7, TX7, 6, rfl, tbX7, by decide, fm_X7_18⟩
theorem fm_X7_21 : Cond.fieldLink RX7 21 (TX7 3).1 (TX7 3).2.1 (TX7 3).2.2.1 ∈ TB_ := tbm 92 (by decide +kernel) (by decide +kernel)
theorem fl_X7_21 : FL_ RX7 21 7 3 := ⟨RX7, TX7, 6, rfl, tbX7, by decide, fm_X7_21⟩
theorem fm_X7_24 : Cond.fieldLink RX7 24 (TX7 4).1 (TX7 4).2.1 (TX7 4).2.2.1 ∈ TB_ := tbm 96 (by decide +kernel) (by decide +kernel)
theorem fl_X7_24 : FL_ RX7 24 7 4 := ⟨RX7, TX7, 6, rfl, tbX7, by decide, fm_X7_24⟩
theorem fm_X7_28 : Cond.fieldLink RX7 28 (TX7 5).1 (TX7 5).2.1 (TX7 5).2.2.1 ∈ TB_ := tbm 99 (by decide +kernel) (by decide +kernel)
theorem fl_X7_28 : FL_ RX7 28 7 5 := ⟨RX7, TX7, 6, rfl, tbX7, by decide, fm_X7_28⟩
theorem pf_X7_28 : PF_ RX7 28 7 5 .int := ⟨RX7, TX7, 6, tyX7, rfl, tbX7, by decide, fm_X7_28, tyX7_ok, nmX7, rfl, by decide +kernel⟩
theorem fm_X8_11 : Cond.fieldLink RX8 11 (TX8 0).1 (TX8 0).2.1 (TX8 0).2.2.1 ∈ TB_ := tbm 397 (by decide +kernel) (by decide +kernel)
theorem fl_X8_11 : FL_ RX8 11 8 0 := ⟨RX8, TX8, 3, rfl, tbX8, by decide, fm_X8_11⟩
theorem pf_X8_11 : PF_ RX8 11 8 0 .int := ⟨RX8, TX8, 3, tyX8, rfl, tbX8, by decide, fm_X8_11, tyX8_ok, nmX8, rfl, by decide +kernel⟩
theorem fm_X8_15 : Cond.fieldLink RX8 15 (TX8 1).1 (TX8 1).2.1 (TX8 1).2.2.1 ∈ TB_ := tbm 399 (by decide +kernel) (by decide +kernel)
theorem fl_X8_15 : FL_ RX8 15 8 1 := ⟨RX8, TX8, 3, rfl, tbX8, by decide, fm_X8_15⟩
theorem pf_X8_15 : PF_ RX8 15 8 1 .int := ⟨RX8, TX8, 3, tyX8, rfl, tbX8, by decide, fm_X8_15, tyX8_ok, nmX8, rfl, by decide +kernel⟩
theorem fm_X8_18 : Cond.fieldLink RX8 18 (TX8 2).1 (TX8 2).2.1 (TX8 2).2.2.1 ∈ TB_ := tbm 401 (by decide +kernel) (by decide +kernel)
theorem fl_X8_18 : FL_ RX8 18 8 2 := ⟨RX8, TX8, 3, rfl, tbX8, by decide, fm_X8_18⟩
theorem fm_X9_9 : Cond.fieldLink RX9 9 (TX9 0).1 (TX9 0).2.1 (TX9 0).2.2.1 ∈ TB_ := tbm 176 (by decide +kernel) (by decide +kernel)
theorem fl_X9_9 : FL_ RX9 9 9 0 := ⟨RX9, TX9, 5, rfl, tbX9, by decide, fm_X9_9⟩
theorem fm_X9_15 : Cond.fieldLink RX9 15 (TX9 1).1 (TX9 1).2.1 (TX9 1).2.2.1 ∈ TB_ := tbm 179 (by decide +kernel) (by decide +kernel)
theorem fl_X9_15 : FL_ RX9 15 9 1 := ⟨RX9, TX9, 5, rfl, tbX9, by decide, fm_X9_15⟩
theorem fm_X9_18 : Cond.fieldLink RX9 18 (TX9 2).1 (TX9 2).2.1 (TX9 2).2.2.1 ∈ TB_ := tbm 182 (by decide +kernel) (by decide +kernel)
theorem fl_X9_18 : FL_ RX9 18 9 2 := ⟨RX9, TX9, 5, rfl, tbX9, by decide, fm_X9_18⟩
theorem fm_X9_21 : Cond.fieldLink RX9 21 (TX9 3).1 (TX9 3).2.1 (TX9 3).2.2.1 ∈ TB_ := tbm 185 (by decide +kernel) (by decide +kernel)
theorem fl_X9_21 : FL_ RX9 21 9 3 := ⟨RX9, TX9, 5, rfl, tbX9, by decide, fm_X9_21⟩
theorem fm_X9_24 : Cond.fieldLink RX9 24 (TX9 4).1 (TX9 4).2.1 (TX9 4).2.2.1 ∈ TB_ := tbm 188 (by decide +kernel) (by decide +kernel)
theorem fl_X9_24 : FL_ RX9 24 9 4 := ⟨RX9, TX9, 5, rfl, tbX9, by decide, fm_X9_24⟩
theorem pf_X9_24 : PF_ RX9 24 9 4 .int := ⟨RX9, TX9, 5, tyX9, rfl, tbX9, by decide, fm_X9_24, tyX9_ok, nmX9, rfl, by decide +kernel⟩
theorem fm_X10_9 : Cond.fieldLink RX10 9 (TX10 0).1 (TX10 0).2.1 (TX10 0).2.2.1 ∈ TB_ := tbm 285 (by decide +kernel) (by decide +kernel)
theorem fl_X10_9 : FL_ RX10 9 10 0 := ⟨RX10, TX10, 6, rfl, tbX10, by decide, fm_X10_9⟩
theorem fm_X10_13 : Cond.fieldLink RX10 13 (TX10 1).1 (TX10 1).2.1 (TX10 1).2.2.1 ∈ TB_ := tbm 286 (by decide +kernel) (by decide +kernel)
theorem fl_X10_13 : FL_ RX10 13 10 1 := ⟨RX10, TX10, 6, rfl, tbX10, by decide, fm_X10_13⟩
theorem pf_X10_13 : PF_ RX10 13 10 1 .int := ⟨RX10, TX10, 6, tyX10, rfl, tbX10, by decide, fm_X10_13, tyX10_ok, nmX10, rfl, by decide +kernel⟩
theorem fm_X10_17 : Cond.fieldLink RX10 17 (TX10 2).1 (TX10 2).2.1 (TX10 2).2.2.1 ∈ TB_ := tbm 288 (by decide +kernel) (by decide +kernel)
theorem fl_X10_17 : FL_ RX10 17 10 2 := ⟨RX10, TX10, 6, rfl, tbX10, by decide, fm_X10_17⟩
theorem fm_X10_20 : Cond.fieldLink RX10 20 (TX10 3).1 (TX10 3).2.1 (TX10 3).2.2.1 ∈ TB_ := tbm 290 (by decide +kernel) (by decide +kernel)
theorem fl_X10_20 : FL_ RX10 20 10 3 := ⟨RX10, TX10, 6, rfl, tbX10, by decide, fm_X10_20⟩
theorem fm_X10_23 : Cond.fieldLink RX10 23 (TX10 4).1 (TX10 4).2.1 (TX10 4).2.2.1 ∈ TB_ := tbm 292 (by decide +kernel) (by decide +kernel)
theorem fl_X10_23 : FL_ RX10 23 10 4 := ⟨RX10, TX10, 6, rfl, tbX10, by decide, fm_X10_23⟩
theorem fm_X10_26 : Cond.fieldLink RX10 26 (TX10 5).1 (TX10 5).2.1 (TX10 5).2.2.1 ∈ TB_ := tbm 294 (by decide +kernel) (by decide +kernel)
theorem fl_X10_26 : FL_ RX10 26 10 5 := ⟨RX10, TX10, 6, rfl, tbX10, by decide, fm_X10_26⟩
theorem pf_X10_26 : PF_ RX10 26 10 5 .int := ⟨RX10, TX10, 6, tyX10, rfl, tbX10, by decide, fm_X10_26, tyX10_ok, nmX10, rfl, by decide +kernel⟩
theorem fm_X12_7 : Cond.fieldLink RX12 7 (TX12 0).1 (TX12 0).2.1 (TX12 0).2.2.1 ∈ TB_ := tbm 1141 (by decide +kernel) (by decide +kernel)
theorem fl_X12_7 : FL_ RX12 7 12 0 := ⟨RX12, TX12, 67, rfl, tbX12, by decide, fm_X12_7⟩
theorem pf_X12_7 : PF_ RX12 7 12 0 .int := ⟨RX12, TX12, 67, tyX12, rfl, tbX12, by decide, fm_X12_7, tyX12_ok, nmX12, rfl, by decide +kernel⟩
theorem fm_X12_13 : Cond.fieldLink RX12 13 (TX12 1).1 (TX12 1).2.1 (TX12 1).2.2.1 ∈ TB_ := tbm 1142 (by decide +kernel) (by decide +kernel)
theorem fl_X12_13 : FL_ RX12 13 12 1 := ⟨RX12, TX12, 67, rfl, tbX12, by decide, fm_X12_13⟩
theorem pf_X12_13 : PF_ RX12 13 12 1 .int := ⟨RX12, TX12, 67, tyX12, rfl, tbX12, by decide, fm_X12_13, tyX12_ok, nmX12, rfl, by decide +kernel⟩
theorem fm_X12_16 : Cond.fieldLink RX12 16 (TX12 2).1 (TX12 2).2.1 (TX12 2).2.2.1 ∈ TB_ := tbm 1143 (by decide +kernel) (by decide +kernel)
theorem fl_X12_16 : FL_ RX12 16 12 2 := ⟨RX12, TX12, 67, rfl, tbX12, by decide, fm_X12_16⟩
theorem fm_X12_20 : Cond.fieldLink RX12 20 (TX12 3).1 (TX12 3).2.1 (TX12 3).2.2.1 ∈ TB_ := tbm 1144 (by decide +kernel) (by decide +kernel)
theorem fl_X12_20 : FL_ RX12 20 12 3 := ⟨RX12, TX12, 67, rfl, tbX12, by decide, fm_X12_20⟩
theorem fm_X12_24 : Cond.fieldLink RX12 24 (TX12 5).1 (TX12 5).2.1 (TX12 5).2.2.1 ∈ TB_ := tbm 1146 (by decide +kernel) (by decide +kernel)
theorem fl_X12_24 : FL_ RX12 24 12 5 := ⟨RX12, TX12, 67, rfl, tbX12, by decide, fm_X12_24⟩
theorem fm_X12_27 : Cond.fieldLink RX12 27 (TX12 7).1 (TX12 7).2.1 (TX12 7).2.2.1 ∈ TB_ := tbm 1148 (by decide +kernel) (by decide +kernel)
theorem fl_X12_27 : FL_ RX12 27 12 7 := ⟨RX12, TX12, 67, rfl, tbX12, by decide, fm_X12_27⟩
theorem fm_X12_30 : Cond.fieldLink RX12 30 (TX12 8).1 (TX12 8).2.1 (TX12 8).2.2.1 ∈ TB_ := tbm 1149 (by decide +kernel) (by decide +kernel)
theorem fl_X12_30 : FL_ RX12 30 12 8 := ⟨RX12, TX12, 67, rfl, tbX12, by decide, fm_X12_30⟩
theorem fm_X12_33 : Cond.fieldLink RX12 33 (TX12 10).1 (TX12 10).2.1 (TX12 10).2.2.1 ∈ TB_ := tbm 1151 (by decide +kernel) (by decide +kernel)
theorem fl_X12_33 : FL_ RX12 33 12 10 := ⟨RX12, TX12, 67, rfl, tbX12, by decide, fm_X12_33⟩
theorem fm_X12_36 : Cond.fieldLink RX12 36 (TX12 11).1 (TX12 11).2.1 (TX12 11).2.2.1 ∈ TB_ := tbm 1152 (by decide +kernel) (by decide +kernel)
theorem fl_X12_36 : FL_ RX12 36 12 11 := ⟨RX12, TX12, 67, rfl, tbX12, by decide, fm_X12_36⟩
theorem fm_X12_39 : Cond.fieldLink RX12 39 (TX12 12).1 (TX12 12).2.1 (TX12 12).2.2.1 ∈ TB_ := tbm 1153 (by decide +kernel) (by decide +kernel)
theorem fl_X12_39 : FL_ RX12 39 12 12 := ⟨RX12, TX12, 67, rfl, tbX12, by decide, fm_X12_39⟩
theorem fm_X12_42 : Cond.fieldLink RX12 42 (TX12 13).1 (TX12 13).2.1 (TX12 13).2.2.1 ∈ TB_ := tbm 1154 (by decide +kernel) (by decide +kernel)
theorem fl_X12_42 : FL_ RX12 42 12 13 := ⟨RX12, TX12, 67, rfl, tbX12, by decide, fm_X12_42⟩
theorem fm_X12_45 : Cond.fieldLink RX12 45 (TX12 14).1 (TX12 14).2.1 (TX12 14).2.2.1 ∈ TB_ := tbm 1155 (by decide +kernel) (by decide +kernel)
theorem fl_X12_45 : FL_ RX12 45 12 14 := ⟨RX12, TX12, 67, rfl, tbX12, by decide, fm_X12_45⟩
theorem fm_X12_48 : Cond.fieldLink RX12 48 (TX12 15).1 (TX12 15).2.1 (TX12 15).2.2.1 ∈ TB_ := tbm 1156 (by decide +kernel) (by decide +kernel)
theorem fl_X12_48 : FL_ RX12 48 12 15 := ⟨RX12, TX12, 67, rfl, tbX12, by decide, fm_X12_48⟩
theorem fm_X12_51 : Cond.fieldLink RX12 51 (TX12 16).1 (TX12 16).2.1 (TX12 16).2.2.1 ∈ TB_ := tbm 1157 (by decide +kernel) (by decide +kernel)
theorem fl_X12_51 : FL_ RX12 51 12 16 := ⟨RX12, TX12, 67, rfl, tbX12, by decide, fm_X12_51⟩
theorem fm_X12_54 : Cond.fieldLink RX12 54 (TX12 18).1 (TX12 18).2.1 (TX12 18).2.2.1 ∈ TB_ := tbm 1159 (by decide +kernel) (by decide +kernel)
theorem fl_X12_54 : FL_ RX12 54 12 18 := ⟨RX12, TX12, 67, rfl, tbX12, by decide, fm_X12_54⟩
theorem fm_X12_57 : Cond.fieldLink RX12 57 (TX12 19).1 (TX12 19).2.1 (TX12 19).2.2.1 ∈ TB_ := tbm 1160 (by decide +kernel) (by decide +kernel)
theorem fl_X12_57 : FL_ RX12 57 12 19 := ⟨RX12, TX12, 67, rfl, tbX12, by decide, fm_X12_57⟩
theorem fm_X12_60 : Cond.fieldLink RX12 60 (TX12 20).1 (TX12 20).2.1 (TX12 20).2.2.1 ∈ TB_ := tbm 1161 (by decide +kernel) (by decide +kernel)
theorem fl_X12_60 : FL_ RX12 60 12 20 := ⟨RX12, TX12, 67, rfl, tbX12, by decide, fm_X12_60⟩
theorem fm_X12_63 : Cond.fieldLink RX12 63 (TX12 21).1 (TX12 21).2.1 (TX12 21).2.2.1 ∈ TB_ := tbm 1162 (by decide +kernel) (by decide +kernel)
theorem fl_X12_63 : FL_ RX12 63 12 21 := ⟨RX12, TX12, 67, rfl, tbX12, by decide, fm_X12_63⟩
theorem fm_X12_66 : Cond.fieldLink RX12 66 (TX12 23).1 (TX12 23).2.1 (TX12 23).2.2.1 ∈ TB_ := tbm 1164 (by decide +kernel) (by decide +kernel)
theorem fl_X12_66 : FL_ RX12 66 12 23 := ⟨RX12, TX12, 67, rfl, tbX12, by decide, fm_X12_66⟩
theorem fm_X12_69 : Cond.fieldLink RX12 69 (TX12 24).1 (TX12 24).2.1 (TX12 24).2.2.1 ∈ TB_ := tbm 1165 (by decide +kernel) (by decide +kernel)
theorem fl_X12_69 : FL_ RX12 69 12 24 := ⟨RX12, TX12, 67, rfl, tbX12, by decide, fm_X12_69⟩
theorem fm_X12_72 : Cond.fieldLink RX12 72 (TX12 25).1 (TX12 25).2.1 (TX12 25).2.2.1 ∈ TB_ := tbm 1166 (by decide +kernel) (by decide +kernel)
theorem fl_X12_72 : FL_ RX12 72 12 25 := ⟨RX12, TX12, 67, rfl, tbX12, by decide, fm_X12_72⟩
theorem fm_X12_76 : Cond.fieldLink RX12 76 (TX12 26).1 (TX12 26).2.1 (TX12 26).2.2.1 ∈ TB_ := tbm 1167 (by decide +kernel) (by decide +kernel)
theorem fl_X12_76 : FL_ RX12 76 12 26 := ⟨RX12, TX12, 67, rfl, tbX12, by decide, fm_X12_76⟩
theorem fm_X12_79 : Cond.fieldLink RX12 79 (TX12 27).1 (TX12 27).2.1 (TX12 27).2.2.1 ∈ TB_ := tbm 1168 (by decide +kernel) (by decide +kernel)
theorem fl_X12_79 : FL_ RX12 79 12 27 := ⟨RX12, TX12, 67, rfl, tbX12, by decide, fm_X12_79⟩
theorem fm_X12_82 : Cond.fieldLink RX12 82 (TX12 29).1 (TX12 29).2.1 (TX12 29).2.2.1 ∈ TB_ := tbm 1170 (by decide +kernel) (by decide +kernel)
theorem fl_X12_82 : FL_ RX12 82 12 29 := ⟨RX12, TX12, 67, rfl, tbX12, by decide, fm_X12_82⟩
theorem fm_X12_85 : Cond.fieldLink RX12 85 (TX12 30).1 (TX12 30).2.1 (TX12 30).2.2.1 ∈ TB_ := tbm 1171 (by decide +kernel) (by decide +kernel)
theorem fl_X12_85 : FL_ RX12 85 12 30 := ⟨RX12, TX12, 67, rfl, tbX12, by decide, fm_X12_85⟩
theorem fm_X12_88 : Cond.fieldLink RX12 88 (TX12 31).1 (TX12 31).2.1 (TX12 31).2.2.1 ∈ TB_ := tbm 1172 (by decide +kernel) (by decide +kernel)
theorem fl_X12_88 : FL_ RX12 88 12 31 := ⟨RX12, TX12, 67, rfl, tbX12, by decide, fm_X12_88⟩
theorem fm_X12_91 : Cond.fieldLink RX12 91 (TX12 32).1 (TX12 32).2.1 (TX12 32).2.2.1 ∈ TB_ := tbm 1173 (by decide +kernel) (by decide +kernel)
theorem fl_X12_91 : FL_ RX12 91 12 32 := ⟨RX12, TX12, 67, rfl, tbX12, by decide, fm_X12_91⟩
theorem fm_X12_94 : Cond.fieldLink RX12 94 (TX12 33).1 (TX12 33).2.1 (TX12 33).2.2.1 ∈ TB_ := tbm 1174 (by decide +kernel) (by decide +kernel)
theorem fl_X12_94 : FL_ RX12 94 12 33 := ⟨RX12, TX12, 67, rfl, tbX12, by decide, fm_X12_94⟩
theorem fm_X12_97 : Cond.fieldLink RX12 97 (TX12 34).1 (TX12 34).2.1 (TX12 34).2.2.1 ∈ TB_ := tbm 1175 (by decide +kernel) (by decide +kernel)
theorem fl_X12_97 : FL_ RX12 97 12 34 := ⟨RX12, TX12, 67, rfl, tbX12, by decide, fm_X12_97⟩
theorem fm_X12_100 : Cond.fieldLink RX12 100 (TX12 35).1 (TX12 35).2.1 (TX12 35).2.2.1 ∈ TB_ := tbm 1176 (by decide +kernel) (by decide +kernel)
theorem fl_X12_100 : FL_ RX12 100 12 35 := ⟨RX12, TX12, 67, rfl, tbX12, by decide, fm_X12_100⟩
theorem fm_X12_103 : Cond.fieldLink RX12 103 (TX12 43).1 (TX12 43).2.1 (TX12 43).2.2.1 ∈ TB_ := tbm 1184 (by decide +kernel) (by decide +kernel)
theorem fl_X12_103 : FL_ RX12 103 12 43 := ⟨RX12, TX12, 67, rfl, tbX12, by decide, fm_X12_103⟩
theorem fm_X12_106 : Cond.fieldLink RX12 106 (TX12 44).1 (TX12 44).2.1 (TX12 44).2.2.1 ∈ TB_ := tbm 1185 (by decide +kernel) (by decide +kernel)
theorem fl_X12_106 : FL_ RX12 106 12 44 := ⟨RX12, TX12, 67, rfl, tbX12, by decide, fm_X12_106⟩
theorem fm_X12_109 : Cond.fieldLink RX12 109 (TX12 45).1 (TX12 45).2.1 (TX12 45).2.2.1 ∈ TB_ := tbm 1186 (by decide +kernel) (by decide +kernel)
theorem fl_X12_109 : FL_ RX12 109 12 45 := ⟨RX12, TX12, 67, rfl, tbX12, by decide, fm_X12_109⟩
theorem fm_X12_112 : Cond.fieldLink RX12 112 (TX12 47).1 (TX12 47).2.1 (TX12 47).2.2.1 ∈ TB_ := tbm 1188 (by decide +kernel) (by decide +kernel)
theorem fl_X12_112 : FL_ RX12 112 12 47 := ⟨RX12, TX12, 67, rfl, tbX12, by decide, fm_X12_112⟩
theorem fm_X12_115 : Cond.fieldLink RX12 115 (TX12 48).1 (TX12 48).2.1 (TX12 48).2.2.1 ∈ TB_ := tbm 1189 (by decide +kernel) (by decide +kernel)
theorem fl_X12_115 : FL_ RX12 115 12 48 := ⟨RX12, TX12, 67, rfl, tbX12, by decide, fm_X12_115⟩
theorem fm_X12_118 : Cond.fieldLink RX12 118 (TX12 50).1 (TX12 50).2.1 (TX12 50).2.2.1 ∈ TB_ := tbm 1191 (by decide +kernel) (by decide +kernel)
theorem fl_X12_118 : FL_ RX12 118 12 50 := ⟨RX12, TX12, 67, rfl, tbX12, by decide, fm_X12_118⟩
theorem fm_X12_121 : Cond.fieldLink RX12 121 (TX12 51).1 (TX12 51).2.1 (TX12 51).2.2.1 ∈ TB_ := tbm 1192 (by decide +kernel) (by decide +kernel)
theorem fl_X12_121 : FL_ RX12 121 12 51 := ⟨RX12, TX12, 67, rfl, tbX12, by decide, fm_X12_121⟩
theorem fm_X12_124 : Cond.fieldLink RX12 124 (TX12 52).1 (TX12 52).2.1 (TX12 52).2.2.1 ∈ TB_ := tbm 1193 (by decide +kernel) (by decide +kernel)
theorem fl_X12_124 : FL_ RX12 124 12 52 := ⟨RX12, TX12, 67, rfl, tbX12, by decide, fm_X12_124⟩
theorem fm_X12_127 : Cond.fieldLink RX12 127 (TX12 54).1 (TX12 54).2.1 (TX12 54).2.2.1 ∈ TB_ := tbm 1195 (by decide +kernel) (by decide +kernel)
theorem fl_X12_127 : FL_ RX12 127 12 54 := ⟨RX12, TX12, 67, rfl, tbX12, by decide, fm_X12_127⟩
theorem fm_X12_130 : Cond.fieldLink RX12 130 (TX12 55).1 (TX12 55).2.1 (TX12 55).2.2.1 ∈ TB_ := tbm 1196 (by decide +kernel) (by decide +kernel)
theorem fl_X12_130 : FL_ RX12 130 12 55 := ⟨RX12, TX12, 67, rfl, tbX12, by decide, fm_X12_130⟩
theorem fm_X12_133 : Cond.fieldLink RX12 133 (TX12 64).1 (TX12 64).2.1 (TX12 64).2.2.1 ∈ TB_ := tbm 1205 (by decide +kernel) (by decide +kernel)
theorem fl_X12_133 : FL_ RX12 133 12 64 := ⟨RX12, TX12, 67, rfl, tbX12, by decide, fm_X12_133⟩
theorem fm_X12_136 : Cond.fieldLink RX12 136 (TX12 65).1 (TX12 65).2.1 (TX12 65).2.2.1 ∈ TB_ := tbm 1206 (by decide +kernel) (by decide +kernel)
theorem fl_X12_136 : FL_ RX12 136 12 65 := ⟨RX12, TX12, 67, rfl, tbX12, by decide, fm_X12_136⟩
theorem fm_X12_139 : Cond.fieldLink RX12 139 (TX12 66).1 (TX12 66).2.1 (TX12 66).2.2.1 ∈ TB_ := tbm 1207 (by decide +kernel) (by decide +kernel)
theorem fl_X12_139 : FL_ RX12 139 12 66 := ⟨RX12, TX12, 67, rfl, tbX12, by decide, fm_X12_139⟩
theorem fm_X12_153 : Cond.fieldLink RX12 153 (TX12 6).1 (TX12 6).2.1 (TX12 6).2.2.1 ∈ TB_ := tbm 1147 (by decide +kernel) (by decide +kernel)
theorem fl_X12_153 : FL_ RX12 153 12 6 := ⟨RX12, TX12, 67, rfl, tbX12, by decide, fm_X12_153⟩
theorem pf_X12_153 : PF_ RX12 153 12 6 .int := ⟨RX12, TX12, 67, tyX12, rfl, tbX12, by decide, fm_X12_153, tyX12_ok, nmX12, rfl, by decide +kernel⟩
theorem fm_X12_158 : Cond.fieldLink RX12 158 (TX12 4).1 (TX12 4).2.1 (TX12 4).2.2.1 ∈ TB_ := tbm 1145 (by decide +kernel) (by decide +kernel)
theorem fl_X12_158 : FL_ RX12 158 12 4 := ⟨RX12, TX12, 67, rfl, tbX12, by decide, fm_X12_158⟩
theorem pf_X12_158 : PF_ RX12 158 12 4 .int := ⟨RX12, TX12, 67, tyX12, rfl, tbX12, by decide, fm_X12_158, tyX12_ok, nmX12, rfl, by decide +kernel⟩
theorem fm_X12_166 : Cond.fieldLink RX12 166 (TX12 9).1 (TX12 9).2.1 (TX12 9).2.2.1 ∈ TB_ := tbm 1150 (by decide +kernel) (by decide +kernel)
theorem fl_X12_166 : FL_ RX12 166 12 9 := ⟨RX12, TX12, 67, rfl, tbX12, by decide, fm_X12_166⟩
theorem pf_X12_166 : PF_ RX12 166 12 9 .int := ⟨RX12, TX12, 67, tyX12, rfl, tbX12, by decide, fm_X12_166, tyX12_ok, nmX12, rfl, by decide +kernel⟩
theorem fm_X12_171 : Cond.fieldLink RX12 171 (TX12 22).1 (TX12 22).2.1 (TX12 22).2.2.1 ∈ TB_ := tbm 1163 (by decide +kernel) (by decide +kernel)
theorem fl_X12_171 : FL_ RX12 171 12 22 := ⟨RX12, TX12, 67, rfl, tbX12, by decide, fm_X12_171⟩
theorem pf_X12_171 : PF_ RX12 171 12 22 .int := ⟨RX12, TX12, 67, tyX12, rfl, tbX12, by decide, fm_X12_171, tyX12_ok, nmX12, rfl, by decide +kernel⟩
theorem fm_X12_226 : Cond.fieldLink RX12 226 (TX12 17).1 (TX12 17).2.1 (TX12 17).2.2.1 ∈ TB_ := tbm 1158 (by decide +kernel) (by decide +kernel)
theorem fl_X12_226 : FL_ RX12 226 12 17 := ⟨RX12, TX12, 67, rfl, tbX12, by decide, fm_X12_226⟩
theorem pf_X12_226 : PF_ RX12 226 12 17 .int := ⟨RX12, TX12, 67, tyX12, rfl, tbX12, by decide, fm_X12_226, tyX12_ok, nmX12, rfl, by decide +kernel⟩
theorem fm_X12_251 : Cond.fieldLink RX12 251 (TX12 28).1 (TX12 28).2.1 (TX12 28).2.2.1 ∈ TB_ := tbm 1169 (by decide +kernel) (by decide +kernel)
theorem fl_X12_251 : FL_ RX12 251 12 28 := ⟨RX12, TX12, 67, rfl, tbX12, by decide, fm_X12_251⟩
theorem pf_X12_251 : PF_ RX12 251 12 28 .int := ⟨RX12, TX12, 67, tyX12, rfl, tbX12, by decide, fm_X12_251, tyX12_ok, nmX12, rfl, by decide +kernel⟩
theorem fm_X12_267 : Cond.fieldLink RX12 267 (TX12 36).1 (TX12 36).2.1 (TX12 36).2.2.1 ∈ TB_ := tbm 1177 (by decide +kernel) (by decide +kernel)
theorem fl_X12_267 : FL_ RX12 267 12 36 := ⟨RX12, TX12, 67, rfl, tbX12, by decide, fm_X12_267⟩
theorem pf_X12_267 : PF_ RX12 267 12 36 .int := ⟨RX12, TX12, 67, tyX12, rfl, tbX12, by decide, fm_X12_267, tyX12_ok, nmX12, rfl, by decide +kernel⟩
theorem fm_X12_270 : Cond.fieldLink RX12 270 (TX12 41).1 (TX12 41).2.1 (TX12 41).2.2.1 ∈ TB_ := tbm 1182 (by decide +kernel) (by decide +kernel)
theorem fl_X12_270 : FL_ RX12 270 12 41 := ⟨RX12, TX12, 67, rfl, tbX12, by decide, fm_X12_270⟩
theorem pf_X12_270 : PF_ RX12 270 12 41 .int := ⟨RX12, TX12, 67, tyX12, rfl, tbX12, by decide, fm_X12_270, tyX12_ok, nmX12, rfl, by decide +kernel⟩
theorem fm_X12_273 : Cond.fieldLink RX12 273 (TX12 38).1 (TX12 38).2.1 (TX12 38).2.2.1 ∈ TB_ := tbm 1179 (by decide +kernel) (by decide +kernel)
theorem fl_X12_273 : FL_ RX12 273 12 38 := ⟨RX12, TX12, 67, rfl, tbX12, by decide, fm_X12_273⟩
theorem pf_X12_273 : PF_ RX12 273 12 38 .int := ⟨RX12, TX12, 67, tyX12, rfl, tbX12, by decide, fm_X12_273, tyX12_ok, nmX12, rfl, by decide +kernel⟩
theorem fm_X12_276 : Cond.fieldLink RX12 276 (TX12 42).1 (TX12 42).2.1 (TX12 42).2.2.1 ∈ TB_ := tbm 1183 (by decide +kernel) (by decide +kernel)
theorem fl_X12_276 : FL_ RX12 276 12 42 := ⟨RX12, TX12, 67, rfl, tbX12, by decide, fm_X12_276⟩
theorem pf_X12_276 : PF_ RX12 276 12 42 .int := ⟨RX12, TX12, 67, tyX12, rfl, tbX12, by decide, fm_X12_276, tyX12_ok, nmX12, rfl, by decide +kernel⟩
theorem fm_X12_279 : Cond.fieldLink RX12 279 (TX12 37).1 (TX12 37).2.1 (TX12 37).2.2.1 ∈ TB_ := tbm 1178 (by decide +kernel) (by decide +kernel)
theorem fl_X12_279 : FL_ RX12 279 12 37 := ⟨RX12, TX12, 67, rfl, tbX12, by decide, fm_X12_279⟩
theorem pf_X12_279 : PF_ RX12 279 12 37 .int := ⟨RX12, TX12, 67, tyX12, rfl, tbX12, by decide, fm_X12_279, tyX12_ok, nmX12, rfl, by decide +kernel⟩
theorem fm_X12_288 : Cond.fieldLink RX12 288 (TX12 39).1 (TX12 39).2.1 (TX12 39).2.2.1 ∈ TB_ := tbm 1180 (by decide +kernel) (by decide +kernel)
theorem fl_X12_288 : FL_ RX12 288 12 39 := ⟨RX12, TX12, 67, rfl, tbX12, by decide, fm_X12_288⟩
theorem pf_X12_288 : PF_ RX12 288 12 39 .int := ⟨RX12, TX12, 67, tyX12, rfl, tbX12, by decide, fm_X12_288, tyX12_ok, nmX12, rfl, by decide +kernel⟩
theorem fm_X12_298 : Cond.fieldLink RX12 298 (TX12 40).1 (TX12 40).2.1 (TX12 40).2.2.1 ∈ TB_ := tbm 1181 (by decide +kernel) (by decide +kernel)
theorem fl_X12_298 : FL_ RX12 298 12 40 := ⟨RX12, TX12, 67, rfl, tbX12, by decide, fm_X12_298⟩
theorem pf_X12_298 : PF_ RX12 298 12 40 .int := ⟨RX12, TX12, 67, tyX12, rfl, tbX12, by decide, fm_X12_298, tyX12_ok, nmX12, rfl, by decide +kernel⟩
theorem fm_X12_316 : Cond.fieldLink RX12 316 (TX12 53).1 (TX12 53).2.1 (TX12 53).2.2.1 ∈ TB_ := tbm 1194 (by decide +kernel) (by decide +kernel)
theorem fl_X12_316 : FL_ RX12 316 12 53 := ⟨RX12, TX12, 67, rfl, tbX12, by decide, fm_X12_316⟩
theorem pf_X12_316 : PF_ RX12 316 12 53 .int := ⟨RX12, TX12, 67, tyX12, rfl, tbX12, by decide, fm_X12_316, tyX12_ok, nmX12, rfl, by decide +kernel⟩
theorem fm_X12_319 : Cond.fieldLink RX12 319 (TX12 56).1 (TX12 56).2.1 (TX12 56).2.2.1 ∈ TB_ := tbm 1197 (by decide +kernel) (by decide +kernel)
theorem fl_X12_319 : FL_ RX12 319 12 56 := ⟨RX12, TX12, 67, rfl, tbX12, by decide, fm_X12_319⟩
theorem pf_X12_319 : PF_ RX12 319 12 56 .int := ⟨RX12, TX12, 67, tyX12, rfl, tbX12, by decide, fm_X12_319, tyX12_ok, nmX12, rfl, by decide +kernel⟩
theorem fm_X12_325 : Cond.fieldLink RX12 325 (TX12 46).1 (TX12 46).2.1 (TX12 46).2.2.1 ∈ TB_ := tbm 1187 (by decide +kernel) (by decide +kernel)
theorem fl_X12_325 : FL_ RX12 325 12 46 := ⟨RX12, TX12, 67, rfl, tbX12, by decide, fm_X12_325⟩
theorem pf_X12_325 : PF_ RX12 325 12 46 .int := ⟨RX12, TX12, 67, tyX12, rfl, tbX12, by decide, fm_X12_325, tyX12_ok, nmX12, rfl, by decide +kernel⟩
theorem fm_X12_328 : Cond.fieldLink RX12 328 (TX12 49).1 (TX12 49).2.1 (TX12 49).2.2.1 ∈ TB_ := tbm 1190 (by decide +kernel) (by decide +kernel)
theorem fl_X12_328 : FL_ RX12 328 12 49 := ⟨RX12, TX12, 67, rfl, tbX12, by decide, fm_X12_328⟩
theorem pf_X12_328 : PF_ RX12 328 12 49 .int := ⟨RX12, TX12, 67, tyX12, rfl, tbX12, by decide, fm_X12_328, tyX12_ok, nmX12, rfl, by decide +kernel⟩
theorem fm_X12_357 : Cond.fieldLink RX12 357 (TX12 57).1 (TX12 57).2.1 (TX12 57).2.2.1 ∈ TB_ := tbm 1198 (by decide +kernel) (by decide +kernel)
theorem fl_X12_357 : FL_ RX12 357 12 57 := ⟨RX12, TX12, 67, rfl, tbX12, by decide, fm_X12_357⟩
theorem pf_X12_357 : PF_ RX12 357 12 57 .int := ⟨RX12, TX12, 67, tyX12, rfl, tbX12, by decide, fm_X12_357, tyX12_ok, nmX12, rfl, by decide +kernel⟩
theorem fm_X12_360 : Cond.fieldLink RX12 360 (TX12 58).1 (TX12 58).2.1 (TX12 58).2.2.1 ∈ TB_ := tbm 1199 (by decide +kernel) (by decide +kernel)
theorem fl_X12_360 : FL_ RX12 360 12 58 := ⟨RX12, TX12, 67, rfl, tbX12, by decide, fm_X12_360⟩
theorem pf_X12_360 : PF_ RX12 360 12 58 .int := ⟨RX12, TX12, 67, tyX12, rfl, tbX12, by decide, fm_X12_360, tyX12_ok, nmX12, rfl, by decide +kernel⟩
theorem fm_X12_370 : Cond.fieldLink RX12 370 (TX12 59).1 (TX12 59).2.1 (TX12 59).2.2.1 ∈ TB_ := tbm 1200 (by decide +kernel) (by decide +kernel)
theorem fl_X12_370 : FL_ RX12 370 12 59 := ⟨RX12, TX12, 67, rfl, tbX12, by decide, fm_X12_370⟩
theorem pf_X12_370 : PF_ RX12 370 12 59 .int := ⟨RX12, TX12, 67, tyX12, rfl, tbX12, by decide, fm_X12_370, tyX12_ok, nmX12, rfl, by decide +kernel⟩
theorem fm_X12_373 : Cond.fieldLink RX12 373 (TX12 60).1 (TX12 60).2.1 (TX12 60).2.2.1 ∈ TB_ := tbm 1201 (by decide +kernel) (by decide +kernel)
theorem fl_X12_373 : FL_ RX12 373 12 60 := ⟨RX12, TX12, 67, rfl, tbX12, by decide, fm_X12_373⟩
theorem pf_X12_373 : PF_ RX12 373 12 60 .int := ⟨RX12, TX12, 67, tyX12, rfl, tbX12, by decide, fm_X12_373, tyX12_ok, nmX12, rfl, by decide +kernel⟩
theorem fm_X12_376 : Cond.fieldLink RX12 376 (TX12 61).1 (TX12 61).2.1 (TX12 61).2.2.1 ∈ TB_ := tbm 1202 (by decide +kernel) (by decide +kernel)
theorem fl_X12_376 : FL_ RX12 376 12 61 := ⟨RX12, TX12, 67, rfl, tbX12, by decide, fm_X12_376⟩
theorem pf_X12_376 : PF_ RX12 376 12 61 .int := ⟨RX12, TX12, 67, tyX12, rfl, tbX12, by decide, fm_X12_376, tyX12_ok, nmX12, rfl, by decide +kernel⟩
theorem fm_X12_379 : Cond.fieldLink RX12 379 (TX12 62).1 (TX12 62).2.1 (TX12 62).2.2.1 ∈ TB_ := tbm 1203 (by decide +kernel) (by decide +kernel)
theorem fl_X12_379 : FL_ RX12 379 12 62 := ⟨RX12, TX12, 67, rfl, tbX12, by decide, fm_X12_379⟩
theorem pf_X12_379 : PF_ RX12 379 12 62 .int := ⟨RX12, TX12, 67, tyX12, rfl, tbX12, by decide, fm_X12_379, tyX12_ok, nmX12, rfl, by decide +kernel⟩
theorem fm_X12_382 : Cond.fieldLink RX12 382 (TX12 63).1 (TX12 63).2.1 (TX12 63).2.2.1 ∈ TB_ := tbm 1204 (by decide +kernel) (by decide +kernel)
theorem fl_X12_382 : FL_ RX12 382 12 63 := ⟨RX12, TX12, 67, rfl, tbX12, by decide, fm_X12_382⟩
theorem pf_X12_382 : PF_ RX12 382 12 63 .int := ⟨RX12, TX12, 67, tyX12, rfl, tbX12, by decide, fm_X12_382, tyX12_ok, nmX12, rfl, by decide +kernel⟩
set_option maxRecDepth 100000 in
theorem cb_X1_init : CB_ yX1_init cX1_init 1 none 0 := ⟨tbm 34 rfl rfl, tbm 2 (by decide +kernel) (by decide +kernel), by decide, by decide, by decide +kernel, by decide +kernel, by decide +kernel⟩
theorem im_X1_init : Cond.instanceMethod yX1_init ∈ TB_ := tbm 33 (by decide +kernel) (by decide +kernel)
set_option maxRecDepth 100000 in
theorem cb_X0_init : CB_ yX0_init cX0_init 2 none 0 := ⟨tbm 61 rfl rfl, tbm 3 (by decide +kernel) (by decide +kernel), by decide, by decide, by decide +kernel, by decide +kernel, by decide +kernel⟩
theorem im_X0_init : Cond.instanceMethod yX0_init ∈ TB_ := tbm 60 (by decide +kernel) (by decide +kernel)
theorem ml_X11_18 : Cond.methodLink RX11 18 yX0_init ∈ TB_ := tbm 59 (by decide +kernel) (by decide +kernel)
set_option maxRecDepth 100000 in
theorem cb_X7_init : CB_ yX7_init cX7_init 1 none 0 := ⟨tbm 81 rfl rfl, tbm 4 (by decide +kernel) (by decide +kernel), by decide, by decide, by decide +kernel, by decide +kernel, by decide +kernel⟩
theorem im_X7_init : Cond.instanceMethod yX7_init ∈ TB_ := tbm 80 (by decide +kernel) (by decide +kernel)
set_option maxRecDepth 100000 in
theorem cb_X6_init : CB_ yX6_init cX6_init 3 none 2 := ⟨tbm 120 rfl rfl, tbm 5 (by decide +kernel) (by decide +kernel), by decide, by decide, by decide +kernel, by decide +kernel, by decide +kernel⟩
theorem im_X6_init : Cond.instanceMethod yX6_init ∈ TB_ := tbm 119 (by decide +kernel) (by decide +kernel)
theorem ml_X11_32 : Cond.methodLink RX11 32 yX6_init ∈ TB_ := tbm 118 (by decide +kernel) (by decide +kernel)
set_option maxRecDepth 100000 in
theorem cb_X9_init : CB_ yX9_init cX9_init 1 none 0 := ⟨tbm 174 rfl rfl, tbm 6 (by decide +kernel) (by decide +kernel), by decide, by decide, by decide +kernel, by decide +kernel, by decide +kernel⟩
theorem im_X9_init : Cond.instanceMethod yX9_init ∈ TB_ := tbm 173 (by decide +kernel) (by decide +kernel)
set_option maxRecDepth 100000 in
theorem cb_X4_init : CB_ yX4_init cX4_init 3 none 2 := ⟨tbm 206 rfl rfl, tbm 7 (by decide +kernel) (by decide +kernel), by decide, by decide, by decide +kernel, by decide +kernel, by decide +kernel⟩
theorem im_X4_init : Cond.instanceMethod yX4_init ∈ TB_ := tbm 205 (by decide +kernel) (by decide +kernel)
theorem ml_X11_56 : Cond.methodLink RX11 56 yX4_init ∈ TB_ := tbm 204 (by decide +kernel) (by decide +kernel)
set_option maxRecDepth 100000 in
theorem cb_X5_init : CB_ yX5_init cX5_init 1 none 0 := ⟨tbm 248 rfl rfl, tbm 8 (by decide +kernel) (by decide +kernel), by decide, by decide, by decide +kernel, by decide +kernel, by decide +kernel⟩
theorem im_X5_init : Cond.instanceMethod yX5_init ∈ TB_ := tbm 247 (by decide +kernel) (by decide +kernel)
set_option maxRecDepth 100000 in
theorem cb_X10_init : CB_ yX10_init cX10_init 1 none 0 := ⟨tbm 283 rfl rfl, tbm 9 (by decide +kernel) (by decide +kernel), by decide, by decide, by decide +kernel, by decide +kernel, by decide +kernel⟩
theorem im_X10_init : Cond.instanceMethod yX10_init ∈ TB_ := tbm 282 (by decide +kernel) (by decide +kernel)
set_option maxRecDepth 100000 in
theorem cb_X2_init : CB_ yX2_init cX2_init 2 none 1 := ⟨tbm 313 rfl rfl, tbm 10 (by decide +kernel) (by decide +kernel), by decide, by decide, by decide +kernel, by decide +kernel, by decide +kernel⟩
theorem im_X2_init : Cond.instanceMethod yX2_init ∈ TB_ := tbm 312 (by decide +kernel) (by decide +kernel)
theorem ml_X11_79 : Cond.methodLink RX11 79 yX2_init ∈ TB_ := tbm 311 (by decide +kernel) (by decide +kernel)
set_option maxRecDepth 100000 in
theorem cb_X3_init : CB_ yX3_init cX3_init 1 none 0 := ⟨tbm 343 rfl rfl, tbm 11 (by decide +kernel) (by decide +kernel), by decide, by decide, by decide +kernel, by decide +kernel, by decide +kernel⟩
theorem im_X3_init : Cond.instanceMethod yX3_init ∈ TB_ := tbm 342 (by decide +kernel) (by decide +kernel)
theorem ml_X11_88 : Cond.methodLink RX11 88 yX3_init ∈ TB_ := tbm 341 (by decide +kernel) (by decide +kernel)
set_option maxRecDepth 100000 in
theorem cb_X8_init : CB_ yX8_init cX8_init 1 none 0 := ⟨tbm 395 rfl rfl, tbm 12 (by decide +kernel) (by decide +kernel), by decide, by decide, by decide +kernel, by decide +kernel, by decide +kernel⟩
theorem im_X8_init : Cond.instanceMethod yX8_init ∈ TB_ := tbm 394 (by decide +kernel) (by decide +kernel)
set_option maxRecDepth 100000 in
theorem cb_X11_within : CB_ yX11_within cX11_within 3 (some .boolean) 3 := ⟨tbm 459 rfl rfl, tbm 1 (by decide +kernel) (by decide +kernel), by decide, by decide, by decide +kernel, by decide +kernel, by decide +kernel⟩
theorem sm_X11_within : Cond.static yX11_within ∈ TB_ := tbm 458 (by decide +kernel) (by decide +kernel)
theorem ml_X11_103 : Cond.methodLink RX11 103 yX11_within ∈ TB_ := tbm 457 (by decide +kernel) (by decide +kernel)
set_option maxRecDepth 100000 in
theorem cb_X11_bit : CB_ yX11_bit cX11_bit 4 (some .int) 3 := ⟨tbm 489 rfl rfl, tbm 1 (by decide +kernel) (by decide +kernel), by decide, by decide, by decide +kernel, by decide +kernel, by decide +kernel⟩
theorem sm_X11_bit : Cond.static yX11_bit ∈ TB_ := tbm 488 (by decide +kernel) (by decide +kernel)
theorem ml_X11_126 : Cond.methodLink RX11 126 yX11_bit ∈ TB_ := tbm 487 (by decide +kernel) (by decide +kernel)
set_option maxRecDepth 100000 in
theorem cb_X11_withBit : CB_ yX11_withBit cX11_withBit 7 (some .long) 4 := ⟨tbm 495 rfl rfl, tbm 1 (by decide +kernel) (by decide +kernel), by decide, by decide, by decide +kernel, by decide +kernel, by decide +kernel⟩
theorem sm_X11_withBit : Cond.static yX11_withBit ∈ TB_ := tbm 494 (by decide +kernel) (by decide +kernel)
theorem ml_X11_130 : Cond.methodLink RX11 130 yX11_withBit ∈ TB_ := tbm 493 (by decide +kernel) (by decide +kernel)
set_option maxRecDepth 100000 in
theorem cb_X11_squareAt : CB_ yX11_squareAt cX11_squareAt 2 (some .int) 2 := ⟨tbm 492 rfl rfl, tbm 1 (by decide +kernel) (by decide +kernel), by decide, by decide, by decide +kernel, by decide +kernel, by decide +kernel⟩
theorem sm_X11_squareAt : Cond.static yX11_squareAt ∈ TB_ := tbm 491 (by decide +kernel) (by decide +kernel)
theorem ml_X11_134 : Cond.methodLink RX11 134 yX11_squareAt ∈ TB_ := tbm 490 (by decide +kernel) (by decide +kernel)
theorem sm_J9_min_7cf53 : Cond.static yJ9_min_7cf53 ∈ TB_ := tbm 485 (by decide +kernel) (by decide +kernel)
theorem ml_X11_243 : Cond.methodLink RX11 243 yJ9_min_7cf53 ∈ TB_ := tbm 689 (by decide +kernel) (by decide +kernel)
theorem sm_J9_max_7cf53 : Cond.static yJ9_max_7cf53 ∈ TB_ := tbm 602 (by decide +kernel) (by decide +kernel)
theorem ml_X11_248 : Cond.methodLink RX11 248 yJ9_max_7cf53 ∈ TB_ := tbm 694 (by decide +kernel) (by decide +kernel)
set_option maxRecDepth 100000 in
theorem cb_J6_bitCount_0f7a4 : CB_ yJ6_bitCount_0f7a4 cJ6_bitCount_0f7a4 1 (some .int) 1 := ⟨tbm 597 rfl rfl, tbm 16 (by decide +kernel) (by decide +kernel), by decide, by decide, by decide +kernel, by decide +kernel, by decide +kernel⟩
theorem sm_J6_bitCount_0f7a4 : Cond.static yJ6_bitCount_0f7a4 ∈ TB_ := tbm 596 (by decide +kernel) (by decide +kernel)
theorem ml_X11_276 : Cond.methodLink RX11 276 yJ6_bitCount_0f7a4 ∈ TB_ := tbm 760 (by decide +kernel) (by decide +kernel)
theorem sm_J13_bitCount_95d88 : Cond.static yJ13_bitCount_95d88 ∈ TB_ := tbm 1109 (by decide +kernel) (by decide +kernel)
theorem ml_X11_404 : Cond.methodLink RX11 404 yJ13_bitCount_95d88 ∈ TB_ := tbm 1108 (by decide +kernel) (by decide +kernel)
theorem ml_X0_29 : Cond.methodLink RX0 29 yJ9_min_7cf53 ∈ TB_ := tbm 484 (by decide +kernel) (by decide +kernel)
theorem ml_X1_44 : Cond.methodLink RX1 44 yJ9_min_7cf53 ∈ TB_ := tbm 540 (by decide +kernel) (by decide +kernel)
theorem ml_X3_47 : Cond.methodLink RX3 47 yJ9_max_7cf53 ∈ TB_ := tbm 1022 (by decide +kernel) (by decide +kernel)
theorem ml_X3_53 : Cond.methodLink RX3 53 yJ9_min_7cf53 ∈ TB_ := tbm 1017 (by decide +kernel) (by decide +kernel)
theorem ml_X5_34 : Cond.methodLink RX5 34 yJ9_max_7cf53 ∈ TB_ := tbm 792 (by decide +kernel) (by decide +kernel)
theorem ml_X5_40 : Cond.methodLink RX5 40 yJ9_min_7cf53 ∈ TB_ := tbm 793 (by decide +kernel) (by decide +kernel)
theorem sm_J9_abs_0f7a4 : Cond.static yJ9_abs_0f7a4 ∈ TB_ := tbm 1057 (by decide +kernel) (by decide +kernel)
theorem ml_X5_51 : Cond.methodLink RX5 51 yJ9_abs_0f7a4 ∈ TB_ := tbm 1056 (by decide +kernel) (by decide +kernel)
set_option maxRecDepth 100000 in
theorem cb_X6_placeOf : CB_ yX6_placeOf cX6_placeOf 4 (some .int) 4 := ⟨tbm 586 rfl rfl, tbm 5 (by decide +kernel) (by decide +kernel), by decide, by decide, by decide +kernel, by decide +kernel, by decide +kernel⟩
theorem sm_X6_placeOf : Cond.static yX6_placeOf ∈ TB_ := tbm 585 (by decide +kernel) (by decide +kernel)
theorem ml_X6_68 : Cond.methodLink RX6 68 yX6_placeOf ∈ TB_ := tbm 584 (by decide +kernel) (by decide +kernel)
theorem ml_X6_116 : Cond.methodLink RX6 116 yJ9_max_7cf53 ∈ TB_ := tbm 601 (by decide +kernel) (by decide +kernel)
theorem ml_X6_127 : Cond.methodLink RX6 127 yJ6_bitCount_0f7a4 ∈ TB_ := tbm 595 (by decide +kernel) (by decide +kernel)
set_option maxRecDepth 100000 in
theorem cb_X12_in : CB_ yX12_in cX12_in 6 (some .boolean) 3 := ⟨tbm 1350 rfl rfl, tbm 13 (by decide +kernel) (by decide +kernel), by decide, by decide, by decide +kernel, by decide +kernel, by decide +kernel⟩
theorem sm_X12_in : Cond.static yX12_in ∈ TB_ := tbm 1349 (by decide +kernel) (by decide +kernel)
theorem ml_X12_145 : Cond.methodLink RX12 145 yX12_in ∈ TB_ := tbm 1348 (by decide +kernel) (by decide +kernel)
set_option maxRecDepth 100000 in
theorem cb_X12_blockAt : CB_ yX12_blockAt cX12_blockAt 4 (some .int) 4 := ⟨tbm 1431 rfl rfl, tbm 13 (by decide +kernel) (by decide +kernel), by decide, by decide, by decide +kernel, by decide +kernel, by decide +kernel⟩
theorem sm_X12_blockAt : Cond.static yX12_blockAt ∈ TB_ := tbm 1430 (by decide +kernel) (by decide +kernel)
theorem ml_X12_205 : Cond.methodLink RX12 205 yX12_blockAt ∈ TB_ := tbm 1429 (by decide +kernel) (by decide +kernel)
set_option maxRecDepth 100000 in
theorem cb_X12_least : CB_ yX12_least cX12_least 2 (some .int) 2 := ⟨tbm 1517 rfl rfl, tbm 13 (by decide +kernel) (by decide +kernel), by decide, by decide, by decide +kernel, by decide +kernel, by decide +kernel⟩
theorem sm_X12_least : Cond.static yX12_least ∈ TB_ := tbm 1516 (by decide +kernel) (by decide +kernel)
theorem ml_X12_254 : Cond.methodLink RX12 254 yX12_least ∈ TB_ := tbm 1515 (by decide +kernel) (by decide +kernel)
set_option maxRecDepth 100000 in
theorem cb_X12_greatest : CB_ yX12_greatest cX12_greatest 2 (some .int) 2 := ⟨tbm 1520 rfl rfl, tbm 13 (by decide +kernel) (by decide +kernel), by decide, by decide, by decide +kernel, by decide +kernel, by decide +kernel⟩
theorem sm_X12_greatest : Cond.static yX12_greatest ∈ TB_ := tbm 1519 (by decide +kernel) (by decide +kernel)
theorem ml_X12_258 : Cond.methodLink RX12 258 yX12_greatest ∈ TB_ := tbm 1518 (by decide +kernel) (by decide +kernel)
set_option maxRecDepth 100000 in
theorem cb_X12_plain : CB_ yX12_plain cX12_plain 1 (some .int) 1 := ⟨tbm 1644 rfl rfl, tbm 13 (by decide +kernel) (by decide +kernel), by decide, by decide, by decide +kernel, by decide +kernel, by decide +kernel⟩
theorem sm_X12_plain : Cond.static yX12_plain ∈ TB_ := tbm 1643 (by decide +kernel) (by decide +kernel)
theorem ml_X12_385 : Cond.methodLink RX12 385 yX12_plain ∈ TB_ := tbm 1642 (by decide +kernel) (by decide +kernel)
set_option maxRecDepth 100000 in
theorem cb_X12_isSheet : CB_ yX12_isSheet cX12_isSheet 2 (some .boolean) 2 := ⟨tbm 1655 rfl rfl, tbm 13 (by decide +kernel) (by decide +kernel), by decide, by decide, by decide +kernel, by decide +kernel, by decide +kernel⟩
theorem sm_X12_isSheet : Cond.static yX12_isSheet ∈ TB_ := tbm 1654 (by decide +kernel) (by decide +kernel)
theorem ml_X12_395 : Cond.methodLink RX12 395 yX12_isSheet ∈ TB_ := tbm 1653 (by decide +kernel) (by decide +kernel)
theorem sm_J1_charAt_3b067 : Cond.static yJ1_charAt_3b067 ∈ TB_ := tbm 874 (by decide +kernel) (by decide +kernel)
theorem ml_J0_495 : Cond.methodLink RJ0 495 yJ1_charAt_3b067 ∈ TB_ := tbm 873 (by decide +kernel) (by decide +kernel)
set_option maxRecDepth 100000 in
theorem cb_J2_charAt_3b067 : CB_ yJ2_charAt_3b067 cJ2_charAt_3b067 2 (some .char) 2 := ⟨tbm 886 rfl rfl, tbm 20 (by decide +kernel) (by decide +kernel), by decide, by decide, by decide +kernel, by decide +kernel, by decide +kernel⟩
theorem sm_J2_charAt_3b067 : Cond.static yJ2_charAt_3b067 ∈ TB_ := tbm 885 (by decide +kernel) (by decide +kernel)
theorem ml_J0_498 : Cond.methodLink RJ0 498 yJ2_charAt_3b067 ∈ TB_ := tbm 884 (by decide +kernel) (by decide +kernel)
theorem sm_J3_checkIndex_8e157 : Cond.static yJ3_checkIndex_8e157 ∈ TB_ := tbm 882 (by decide +kernel) (by decide +kernel)
theorem ml_J0_1059 : Cond.methodLink RJ0 1059 yJ3_checkIndex_8e157 ∈ TB_ := tbm 881 (by decide +kernel) (by decide +kernel)
theorem sm_J0_checkIndex_df160 : Cond.static yJ0_checkIndex_df160 ∈ TB_ := tbm 877 (by decide +kernel) (by decide +kernel)
theorem ml_J1_9 : Cond.methodLink RJ1 9 yJ0_checkIndex_df160 ∈ TB_ := tbm 876 (by decide +kernel) (by decide +kernel)
set_option maxRecDepth 100000 in
theorem cb_X1_renew : CB_ yX1_renew cX1_renew 4 none 2 := ⟨tbm 463 rfl rfl, tbm 2 (by decide +kernel) (by decide +kernel), by decide, by decide, by decide +kernel, by decide +kernel, by decide +kernel⟩
theorem im_X1_renew : Cond.instanceMethod yX1_renew ∈ TB_ := tbm 461 (by decide +kernel) (by decide +kernel)
theorem se_X1_renew : Cond.selects yX1_renew.cls yX1_renew yX1_renew ∈ TB_ := tbm 462 (by decide +kernel) (by decide +kernel)
theorem ml_X11_107 : Cond.methodLink RX11 107 yX1_renew ∈ TB_ := tbm 460 (by decide +kernel) (by decide +kernel)
set_option maxRecDepth 100000 in
theorem cb_X1_hasSquare : CB_ yX1_hasSquare cX1_hasSquare 3 (some .boolean) 2 := ⟨tbm 471 rfl rfl, tbm 2 (by decide +kernel) (by decide +kernel), by decide, by decide, by decide +kernel, by decide +kernel, by decide +kernel⟩
theorem im_X1_hasSquare : Cond.instanceMethod yX1_hasSquare ∈ TB_ := tbm 469 (by decide +kernel) (by decide +kernel)
theorem se_X1_hasSquare : Cond.selects yX1_hasSquare.cls yX1_hasSquare yX1_hasSquare ∈ TB_ := tbm 470 (by decide +kernel) (by decide +kernel)
theorem ml_X11_114 : Cond.methodLink RX11 114 yX1_hasSquare ∈ TB_ := tbm 468 (by decide +kernel) (by decide +kernel)
set_option maxRecDepth 100000 in
theorem cb_X0_keep : CB_ yX0_keep cX0_keep 2 none 1 := ⟨tbm 476 rfl rfl, tbm 3 (by decide +kernel) (by decide +kernel), by decide, by decide, by decide +kernel, by decide +kernel, by decide +kernel⟩
theorem im_X0_keep : Cond.instanceMethod yX0_keep ∈ TB_ := tbm 474 (by decide +kernel) (by decide +kernel)
theorem se_X0_keep : Cond.selects yX0_keep.cls yX0_keep yX0_keep ∈ TB_ := tbm 475 (by decide +kernel) (by decide +kernel)
theorem ml_X11_118 : Cond.methodLink RX11 118 yX0_keep ∈ TB_ := tbm 473 (by decide +kernel) (by decide +kernel)
set_option maxRecDepth 100000 in
theorem cb_X7_add : CB_ yX7_add cX7_add 6 (some .int) 5 := ⟨tbm 508 rfl rfl, tbm 4 (by decide +kernel) (by decide +kernel), by decide, by decide, by decide +kernel, by decide +kernel, by decide +kernel⟩
theorem im_X7_add : Cond.instanceMethod yX7_add ∈ TB_ := tbm 506 (by decide +kernel) (by decide +kernel)
theorem se_X7_add : Cond.selects yX7_add.cls yX7_add yX7_add ∈ TB_ := tbm 507 (by decide +kernel) (by decide +kernel)
theorem ml_X11_143 : Cond.methodLink RX11 143 yX7_add ∈ TB_ := tbm 505 (by decide +kernel) (by decide +kernel)
set_option maxRecDepth 100000 in
theorem cb_X4_want : CB_ yX4_want cX4_want 3 (some .boolean) 1 := ⟨tbm 516 rfl rfl, tbm 7 (by decide +kernel) (by decide +kernel), by decide, by decide, by decide +kernel, by decide +kernel, by decide +kernel⟩
theorem im_X4_want : Cond.instanceMethod yX4_want ∈ TB_ := tbm 514 (by decide +kernel) (by decide +kernel)
theorem se_X4_want : Cond.selects yX4_want.cls yX4_want yX4_want ∈ TB_ := tbm 515 (by decide +kernel) (by decide +kernel)
theorem ml_X11_147 : Cond.methodLink RX11 147 yX4_want ∈ TB_ := tbm 513 (by decide +kernel) (by decide +kernel)
set_option maxRecDepth 100000 in
theorem cb_X1_hasBlock : CB_ yX1_hasBlock cX1_hasBlock 5 (some .boolean) 4 := ⟨tbm 524 rfl rfl, tbm 2 (by decide +kernel) (by decide +kernel), by decide, by decide, by decide +kernel, by decide +kernel, by decide +kernel⟩
theorem im_X1_hasBlock : Cond.instanceMethod yX1_hasBlock ∈ TB_ := tbm 522 (by decide +kernel) (by decide +kernel)
theorem se_X1_hasBlock : Cond.selects yX1_hasBlock.cls yX1_hasBlock yX1_hasBlock ∈ TB_ := tbm 523 (by decide +kernel) (by decide +kernel)
theorem ml_X11_151 : Cond.methodLink RX11 151 yX1_hasBlock ∈ TB_ := tbm 521 (by decide +kernel) (by decide +kernel)
set_option maxRecDepth 100000 in
theorem cb_X7_has : CB_ yX7_has cX7_has 2 (some .boolean) 1 := ⟨tbm 528 rfl rfl, tbm 4 (by decide +kernel) (by decide +kernel), by decide, by decide, by decide +kernel, by decide +kernel, by decide +kernel⟩
theorem im_X7_has : Cond.instanceMethod yX7_has ∈ TB_ := tbm 526 (by decide +kernel) (by decide +kernel)
theorem se_X7_has : Cond.selects yX7_has.cls yX7_has yX7_has ∈ TB_ := tbm 527 (by decide +kernel) (by decide +kernel)
theorem ml_X11_155 : Cond.methodLink RX11 155 yX7_has ∈ TB_ := tbm 525 (by decide +kernel) (by decide +kernel)
set_option maxRecDepth 100000 in
theorem cb_X7_isOf : CB_ yX7_isOf cX7_isOf 4 (some .boolean) 3 := ⟨tbm 533 rfl rfl, tbm 4 (by decide +kernel) (by decide +kernel), by decide, by decide, by decide +kernel, by decide +kernel, by decide +kernel⟩
theorem im_X7_isOf : Cond.instanceMethod yX7_isOf ∈ TB_ := tbm 531 (by decide +kernel) (by decide +kernel)
theorem se_X7_isOf : Cond.selects yX7_isOf.cls yX7_isOf yX7_isOf ∈ TB_ := tbm 532 (by decide +kernel) (by decide +kernel)
theorem ml_X11_158 : Cond.methodLink RX11 158 yX7_isOf ∈ TB_ := tbm 530 (by decide +kernel) (by decide +kernel)
set_option maxRecDepth 100000 in
theorem cb_X1_soundness : CB_ yX1_soundness cX1_soundness 8 (some .int) 4 := ⟨tbm 537 rfl rfl, tbm 2 (by decide +kernel) (by decide +kernel), by decide, by decide, by decide +kernel, by decide +kernel, by decide +kernel⟩
theorem im_X1_soundness : Cond.instanceMethod yX1_soundness ∈ TB_ := tbm 535 (by decide +kernel) (by decide +kernel)
theorem se_X1_soundness : Cond.selects yX1_soundness.cls yX1_soundness yX1_soundness ∈ TB_ := tbm 536 (by decide +kernel) (by decide +kernel)
theorem ml_X11_161 : Cond.methodLink RX11 161 yX1_soundness ∈ TB_ := tbm 534 (by decide +kernel) (by decide +kernel)
set_option maxRecDepth 100000 in
theorem cb_X11_isOpen : CB_ yX11_isOpen cX11_isOpen 5 (some .boolean) 1 := ⟨tbm 548 rfl rfl, tbm 1 (by decide +kernel) (by decide +kernel), by decide, by decide, by decide +kernel, by decide +kernel, by decide +kernel⟩
theorem im_X11_isOpen : Cond.instanceMethod yX11_isOpen ∈ TB_ := tbm 547 (by decide +kernel) (by decide +kernel)
theorem se_X11_isOpen : Cond.selects yX11_isOpen.cls yX11_isOpen yX11_isOpen ∈ TB_ := tbs 0 (q := (yX11_isOpen, 14)) (by decide +kernel)
theorem ml_X11_168 : Cond.methodLink RX11 168 yX11_isOpen ∈ TB_ := tbm 545 (by decide +kernel) (by decide +kernel)
set_option maxRecDepth 100000 in
theorem cb_X1_hasSound : CB_ yX1_hasSound cX1_hasSound 6 (some .boolean) 3 := ⟨tbm 552 rfl rfl, tbm 2 (by decide +kernel) (by decide +kernel), by decide, by decide, by decide +kernel, by decide +kernel, by decide +kernel⟩
theorem im_X1_hasSound : Cond.instanceMethod yX1_hasSound ∈ TB_ := tbm 550 (by decide +kernel) (by decide +kernel)
theorem se_X1_hasSound : Cond.selects yX1_hasSound.cls yX1_hasSound yX1_hasSound ∈ TB_ := tbm 551 (by decide +kernel) (by decide +kernel)
theorem ml_X11_177 : Cond.methodLink RX11 177 yX1_hasSound ∈ TB_ := tbm 549 (by decide +kernel) (by decide +kernel)
set_option maxRecDepth 100000 in
theorem cb_X6_seeOnly : CB_ yX6_seeOnly cX6_seeOnly 3 none 1 := ⟨tbm 561 rfl rfl, tbm 5 (by decide +kernel) (by decide +kernel), by decide, by decide, by decide +kernel, by decide +kernel, by decide +kernel⟩
theorem im_X6_seeOnly : Cond.instanceMethod yX6_seeOnly ∈ TB_ := tbm 559 (by decide +kernel) (by decide +kernel)
theorem se_X6_seeOnly : Cond.selects yX6_seeOnly.cls yX6_seeOnly yX6_seeOnly ∈ TB_ := tbm 560 (by decide +kernel) (by decide +kernel)
theorem ml_X11_184 : Cond.methodLink RX11 184 yX6_seeOnly ∈ TB_ := tbm 558 (by decide +kernel) (by decide +kernel)
set_option maxRecDepth 100000 in
theorem cb_X6_weigh : CB_ yX6_weigh cX6_weigh 7 (some .int) 4 := ⟨tbm 565 rfl rfl, tbm 5 (by decide +kernel) (by decide +kernel), by decide, by decide, by decide +kernel, by decide +kernel, by decide +kernel⟩
theorem im_X6_weigh : Cond.instanceMethod yX6_weigh ∈ TB_ := tbm 563 (by decide +kernel) (by decide +kernel)
theorem se_X6_weigh : Cond.selects yX6_weigh.cls yX6_weigh yX6_weigh ∈ TB_ := tbm 564 (by decide +kernel) (by decide +kernel)
theorem ml_X11_188 : Cond.methodLink RX11 188 yX6_weigh ∈ TB_ := tbm 562 (by decide +kernel) (by decide +kernel)
set_option maxRecDepth 100000 in
theorem cb_X6_decide : CB_ yX6_decide cX6_decide 9 (some .int) 4 := ⟨tbm 619 rfl rfl, tbm 5 (by decide +kernel) (by decide +kernel), by decide, by decide, by decide +kernel, by decide +kernel, by decide +kernel⟩
theorem im_X6_decide : Cond.instanceMethod yX6_decide ∈ TB_ := tbm 617 (by decide +kernel) (by decide +kernel)
theorem se_X6_decide : Cond.selects yX6_decide.cls yX6_decide yX6_decide ∈ TB_ := tbm 618 (by decide +kernel) (by decide +kernel)
theorem ml_X11_191 : Cond.methodLink RX11 191 yX6_decide ∈ TB_ := tbm 616 (by decide +kernel) (by decide +kernel)
set_option maxRecDepth 100000 in
theorem cb_X11_mostWith : CB_ yX11_mostWith cX11_mostWith 3 (some .int) 1 := ⟨tbm 631 rfl rfl, tbm 1 (by decide +kernel) (by decide +kernel), by decide, by decide, by decide +kernel, by decide +kernel, by decide +kernel⟩
theorem im_X11_mostWith : Cond.instanceMethod yX11_mostWith ∈ TB_ := tbm 630 (by decide +kernel) (by decide +kernel)
theorem se_X11_mostWith : Cond.selects yX11_mostWith.cls yX11_mostWith yX11_mostWith ∈ TB_ := tbs 10 (q := (yX11_mostWith, 14)) (by decide +kernel)
theorem ml_X11_194 : Cond.methodLink RX11 194 yX11_mostWith ∈ TB_ := tbm 628 (by decide +kernel) (by decide +kernel)
set_option maxRecDepth 100000 in
theorem cb_X6_tally : CB_ yX6_tally cX6_tally 3 none 0 := ⟨tbm 635 rfl rfl, tbm 5 (by decide +kernel) (by decide +kernel), by decide, by decide, by decide +kernel, by decide +kernel, by decide +kernel⟩
theorem im_X6_tally : Cond.instanceMethod yX6_tally ∈ TB_ := tbm 633 (by decide +kernel) (by decide +kernel)
theorem se_X6_tally : Cond.selects yX6_tally.cls yX6_tally yX6_tally ∈ TB_ := tbm 634 (by decide +kernel) (by decide +kernel)
theorem ml_X11_198 : Cond.methodLink RX11 198 yX6_tally ∈ TB_ := tbm 632 (by decide +kernel) (by decide +kernel)
set_option maxRecDepth 100000 in
theorem cb_X0_takeBack : CB_ yX0_takeBack cX0_takeBack 2 none 1 := ⟨tbm 652 rfl rfl, tbm 3 (by decide +kernel) (by decide +kernel), by decide, by decide, by decide +kernel, by decide +kernel, by decide +kernel⟩
theorem im_X0_takeBack : Cond.instanceMethod yX0_takeBack ∈ TB_ := tbm 650 (by decide +kernel) (by decide +kernel)
theorem se_X0_takeBack : Cond.selects yX0_takeBack.cls yX0_takeBack yX0_takeBack ∈ TB_ := tbm 651 (by decide +kernel) (by decide +kernel)
theorem ml_X11_213 : Cond.methodLink RX11 213 yX0_takeBack ∈ TB_ := tbm 649 (by decide +kernel) (by decide +kernel)
set_option maxRecDepth 100000 in
theorem cb_X11_late : CB_ yX11_late cX11_late 3 (some .int) 0 := ⟨tbm 668 rfl rfl, tbm 1 (by decide +kernel) (by decide +kernel), by decide, by decide, by decide +kernel, by decide +kernel, by decide +kernel⟩
theorem im_X11_late : Cond.instanceMethod yX11_late ∈ TB_ := tbm 667 (by decide +kernel) (by decide +kernel)
theorem se_X11_late : Cond.selects yX11_late.cls yX11_late yX11_late ∈ TB_ := tbs 12 (q := (yX11_late, 14)) (by decide +kernel)
theorem ml_X11_220 : Cond.methodLink RX11 220 yX11_late ∈ TB_ := tbm 665 (by decide +kernel) (by decide +kernel)
set_option maxRecDepth 100000 in
theorem cb_X11_early : CB_ yX11_early cX11_early 2 (some .int) 0 := ⟨tbm 676 rfl rfl, tbm 1 (by decide +kernel) (by decide +kernel), by decide, by decide, by decide +kernel, by decide +kernel, by decide +kernel⟩
theorem im_X11_early : Cond.instanceMethod yX11_early ∈ TB_ := tbm 675 (by decide +kernel) (by decide +kernel)
theorem se_X11_early : Cond.selects yX11_early.cls yX11_early yX11_early ∈ TB_ := tbs 14 (q := (yX11_early, 14)) (by decide +kernel)
theorem ml_X11_224 : Cond.methodLink RX11 224 yX11_early ∈ TB_ := tbm 673 (by decide +kernel) (by decide +kernel)
set_option maxRecDepth 100000 in
theorem cb_X11_earlyDeed : CB_ yX11_earlyDeed cX11_earlyDeed 1 (some .int) 0 := ⟨tbm 684 rfl rfl, tbm 1 (by decide +kernel) (by decide +kernel), by decide, by decide, by decide +kernel, by decide +kernel, by decide +kernel⟩
theorem im_X11_earlyDeed : Cond.instanceMethod yX11_earlyDeed ∈ TB_ := tbm 683 (by decide +kernel) (by decide +kernel)
theorem se_X11_earlyDeed : Cond.selects yX11_earlyDeed.cls yX11_earlyDeed yX11_earlyDeed ∈ TB_ := tbs 15 (q := (yX11_earlyDeed, 14)) (by decide +kernel)
theorem ml_X11_227 : Cond.methodLink RX11 227 yX11_earlyDeed ∈ TB_ := tbm 681 (by decide +kernel) (by decide +kernel)
set_option maxRecDepth 100000 in
theorem cb_X11_leastOfWorlds : CB_ yX11_leastOfWorlds cX11_leastOfWorlds 3 (some .int) 0 := ⟨tbm 688 rfl rfl, tbm 1 (by decide +kernel) (by decide +kernel), by decide, by decide, by decide +kernel, by decide +kernel, by decide +kernel⟩
theorem im_X11_leastOfWorlds : Cond.instanceMethod yX11_leastOfWorlds ∈ TB_ := tbm 687 (by decide +kernel) (by decide +kernel)
theorem se_X11_leastOfWorlds : Cond.selects yX11_leastOfWorlds.cls yX11_leastOfWorlds yX11_leastOfWorlds ∈ TB_ := tbs 16 (q := (yX11_leastOfWorlds, 14)) (by decide +kernel)
theorem ml_X11_230 : Cond.methodLink RX11 230 yX11_leastOfWorlds ∈ TB_ := tbm 685 (by decide +kernel) (by decide +kernel)
set_option maxRecDepth 100000 in
theorem cb_X11_greatestOfWorlds : CB_ yX11_greatestOfWorlds cX11_greatestOfWorlds 3 (some .int) 0 := ⟨tbm 693 rfl rfl, tbm 1 (by decide +kernel) (by decide +kernel), by decide, by decide, by decide +kernel, by decide +kernel, by decide +kernel⟩
theorem im_X11_greatestOfWorlds : Cond.instanceMethod yX11_greatestOfWorlds ∈ TB_ := tbm 692 (by decide +kernel) (by decide +kernel)
theorem se_X11_greatestOfWorlds : Cond.selects yX11_greatestOfWorlds.cls yX11_greatestOfWorlds yX11_greatestOfWorlds ∈ TB_ := tbs 17 (q := (yX11_greatestOfWorlds, 14)) (by decide +kernel)
theorem ml_X11_233 : Cond.methodLink RX11 233 yX11_greatestOfWorlds ∈ TB_ := tbm 690 (by decide +kernel) (by decide +kernel)
set_option maxRecDepth 100000 in
theorem cb_X11_mostInWorld : CB_ yX11_mostInWorld cX11_mostInWorld 2 (some .int) 1 := ⟨tbm 672 rfl rfl, tbm 1 (by decide +kernel) (by decide +kernel), by decide, by decide, by decide +kernel, by decide +kernel, by decide +kernel⟩
theorem im_X11_mostInWorld : Cond.instanceMethod yX11_mostInWorld ∈ TB_ := tbm 671 (by decide +kernel) (by decide +kernel)
theorem se_X11_mostInWorld : Cond.selects yX11_mostInWorld.cls yX11_mostInWorld yX11_mostInWorld ∈ TB_ := tbs 13 (q := (yX11_mostInWorld, 14)) (by decide +kernel)
theorem ml_X11_236 : Cond.methodLink RX11 236 yX11_mostInWorld ∈ TB_ := tbm 669 (by decide +kernel) (by decide +kernel)
set_option maxRecDepth 100000 in
theorem cb_X6_seeToo : CB_ yX6_seeToo cX6_seeToo 3 none 1 := ⟨tbm 680 rfl rfl, tbm 5 (by decide +kernel) (by decide +kernel), by decide, by decide, by decide +kernel, by decide +kernel, by decide +kernel⟩
theorem im_X6_seeToo : Cond.instanceMethod yX6_seeToo ∈ TB_ := tbm 678 (by decide +kernel) (by decide +kernel)
theorem se_X6_seeToo : Cond.selects yX6_seeToo.cls yX6_seeToo yX6_seeToo ∈ TB_ := tbm 679 (by decide +kernel) (by decide +kernel)
theorem ml_X11_240 : Cond.methodLink RX11 240 yX6_seeToo ∈ TB_ := tbm 677 (by decide +kernel) (by decide +kernel)
set_option maxRecDepth 100000 in
theorem cb_X9_add : CB_ yX9_add cX9_add 5 (some .int) 4 := ⟨tbm 702 rfl rfl, tbm 6 (by decide +kernel) (by decide +kernel), by decide, by decide, by decide +kernel, by decide +kernel, by decide +kernel⟩
theorem im_X9_add : Cond.instanceMethod yX9_add ∈ TB_ := tbm 700 (by decide +kernel) (by decide +kernel)
theorem se_X9_add : Cond.selects yX9_add.cls yX9_add yX9_add ∈ TB_ := tbm 701 (by decide +kernel) (by decide +kernel)
theorem ml_X11_252 : Cond.methodLink RX11 252 yX9_add ∈ TB_ := tbm 699 (by decide +kernel) (by decide +kernel)
set_option maxRecDepth 100000 in
theorem cb_X4_servedBy : CB_ yX4_servedBy cX4_servedBy 4 (some .int) 1 := ⟨tbm 710 rfl rfl, tbm 7 (by decide +kernel) (by decide +kernel), by decide, by decide, by decide +kernel, by decide +kernel, by decide +kernel⟩
theorem im_X4_servedBy : Cond.instanceMethod yX4_servedBy ∈ TB_ := tbm 708 (by decide +kernel) (by decide +kernel)
theorem se_X4_servedBy : Cond.selects yX4_servedBy.cls yX4_servedBy yX4_servedBy ∈ TB_ := tbm 709 (by decide +kernel) (by decide +kernel)
theorem ml_X11_260 : Cond.methodLink RX11 260 yX4_servedBy ∈ TB_ := tbm 707 (by decide +kernel) (by decide +kernel)
set_option maxRecDepth 100000 in
theorem cb_X4_add : CB_ yX4_add cX4_add 4 (some .int) 3 := ⟨tbm 727 rfl rfl, tbm 7 (by decide +kernel) (by decide +kernel), by decide, by decide, by decide +kernel, by decide +kernel, by decide +kernel⟩
theorem im_X4_add : Cond.instanceMethod yX4_add ∈ TB_ := tbm 725 (by decide +kernel) (by decide +kernel)
theorem se_X4_add : Cond.selects yX4_add.cls yX4_add yX4_add ∈ TB_ := tbm 726 (by decide +kernel) (by decide +kernel)
theorem ml_X11_264 : Cond.methodLink RX11 264 yX4_add ∈ TB_ := tbm 724 (by decide +kernel) (by decide +kernel)
set_option maxRecDepth 100000 in
theorem cb_X4_fill : CB_ yX4_fill cX4_fill 6 (some .int) 0 := ⟨tbm 735 rfl rfl, tbm 7 (by decide +kernel) (by decide +kernel), by decide, by decide, by decide +kernel, by decide +kernel, by decide +kernel⟩
theorem im_X4_fill : Cond.instanceMethod yX4_fill ∈ TB_ := tbm 733 (by decide +kernel) (by decide +kernel)
theorem se_X4_fill : Cond.selects yX4_fill.cls yX4_fill yX4_fill ∈ TB_ := tbm 734 (by decide +kernel) (by decide +kernel)
theorem ml_X11_267 : Cond.methodLink RX11 267 yX4_fill ∈ TB_ := tbm 732 (by decide +kernel) (by decide +kernel)
set_option maxRecDepth 100000 in
theorem cb_X4_givenBlocks : CB_ yX4_givenBlocks cX4_givenBlocks 3 (some .int) 0 := ⟨tbm 759 rfl rfl, tbm 7 (by decide +kernel) (by decide +kernel), by decide, by decide, by decide +kernel, by decide +kernel, by decide +kernel⟩
theorem im_X4_givenBlocks : Cond.instanceMethod yX4_givenBlocks ∈ TB_ := tbm 757 (by decide +kernel) (by decide +kernel)
theorem se_X4_givenBlocks : Cond.selects yX4_givenBlocks.cls yX4_givenBlocks yX4_givenBlocks ∈ TB_ := tbm 758 (by decide +kernel) (by decide +kernel)
theorem ml_X11_273 : Cond.methodLink RX11 273 yX4_givenBlocks ∈ TB_ := tbm 756 (by decide +kernel) (by decide +kernel)
set_option maxRecDepth 100000 in
theorem cb_X9_remove : CB_ yX9_remove cX9_remove 4 none 1 := ⟨tbm 768 rfl rfl, tbm 6 (by decide +kernel) (by decide +kernel), by decide, by decide, by decide +kernel, by decide +kernel, by decide +kernel⟩
theorem im_X9_remove : Cond.instanceMethod yX9_remove ∈ TB_ := tbm 766 (by decide +kernel) (by decide +kernel)
theorem se_X9_remove : Cond.selects yX9_remove.cls yX9_remove yX9_remove ∈ TB_ := tbm 767 (by decide +kernel) (by decide +kernel)
theorem ml_X11_281 : Cond.methodLink RX11 281 yX9_remove ∈ TB_ := tbm 765 (by decide +kernel) (by decide +kernel)
set_option maxRecDepth 100000 in
theorem cb_X4_removeFilled : CB_ yX4_removeFilled cX4_removeFilled 3 none 0 := ⟨tbm 773 rfl rfl, tbm 7 (by decide +kernel) (by decide +kernel), by decide, by decide, by decide +kernel, by decide +kernel, by decide +kernel⟩
theorem im_X4_removeFilled : Cond.instanceMethod yX4_removeFilled ∈ TB_ := tbm 771 (by decide +kernel) (by decide +kernel)
theorem se_X4_removeFilled : Cond.selects yX4_removeFilled.cls yX4_removeFilled yX4_removeFilled ∈ TB_ := tbm 772 (by decide +kernel) (by decide +kernel)
theorem ml_X11_285 : Cond.methodLink RX11 285 yX4_removeFilled ∈ TB_ := tbm 770 (by decide +kernel) (by decide +kernel)
set_option maxRecDepth 100000 in
theorem cb_X5_add : CB_ yX5_add cX5_add 5 (some .int) 4 := ⟨tbm 787 rfl rfl, tbm 8 (by decide +kernel) (by decide +kernel), by decide, by decide, by decide +kernel, by decide +kernel, by decide +kernel⟩
theorem im_X5_add : Cond.instanceMethod yX5_add ∈ TB_ := tbm 785 (by decide +kernel) (by decide +kernel)
theorem se_X5_add : Cond.selects yX5_add.cls yX5_add yX5_add ∈ TB_ := tbm 786 (by decide +kernel) (by decide +kernel)
theorem ml_X11_293 : Cond.methodLink RX11 293 yX5_add ∈ TB_ := tbm 784 (by decide +kernel) (by decide +kernel)
set_option maxRecDepth 100000 in
theorem cb_X5_judge : CB_ yX5_judge cX5_judge 7 none 4 := ⟨tbm 791 rfl rfl, tbm 8 (by decide +kernel) (by decide +kernel), by decide, by decide, by decide +kernel, by decide +kernel, by decide +kernel⟩
theorem im_X5_judge : Cond.instanceMethod yX5_judge ∈ TB_ := tbm 789 (by decide +kernel) (by decide +kernel)
theorem se_X5_judge : Cond.selects yX5_judge.cls yX5_judge yX5_judge ∈ TB_ := tbm 790 (by decide +kernel) (by decide +kernel)
theorem ml_X11_294 : Cond.methodLink RX11 294 yX5_judge ∈ TB_ := tbm 788 (by decide +kernel) (by decide +kernel)
set_option maxRecDepth 100000 in
theorem cb_X5_has : CB_ yX5_has cX5_has 2 (some .boolean) 1 := ⟨tbm 801 rfl rfl, tbm 8 (by decide +kernel) (by decide +kernel), by decide, by decide, by decide +kernel, by decide +kernel, by decide +kernel⟩
theorem im_X5_has : Cond.instanceMethod yX5_has ∈ TB_ := tbm 799 (by decide +kernel) (by decide +kernel)
theorem se_X5_has : Cond.selects yX5_has.cls yX5_has yX5_has ∈ TB_ := tbm 800 (by decide +kernel) (by decide +kernel)
theorem ml_X11_298 : Cond.methodLink RX11 298 yX5_has ∈ TB_ := tbm 798 (by decide +kernel) (by decide +kernel)
set_option maxRecDepth 100000 in
theorem cb_X3_seller : CB_ yX3_seller cX3_seller 5 (some .int) 2 := ⟨tbm 806 rfl rfl, tbm 11 (by decide +kernel) (by decide +kernel), by decide, by decide, by decide +kernel, by decide +kernel, by decide +kernel⟩
theorem im_X3_seller : Cond.instanceMethod yX3_seller ∈ TB_ := tbm 804 (by decide +kernel) (by decide +kernel)
theorem se_X3_seller : Cond.selects yX3_seller.cls yX3_seller yX3_seller ∈ TB_ := tbm 805 (by decide +kernel) (by decide +kernel)
theorem ml_X11_317 : Cond.methodLink RX11 317 yX3_seller ∈ TB_ := tbm 803 (by decide +kernel) (by decide +kernel)
set_option maxRecDepth 100000 in
theorem cb_X3_stepsToSell : CB_ yX3_stepsToSell cX3_stepsToSell 6 (some .int) 2 := ⟨tbm 810 rfl rfl, tbm 11 (by decide +kernel) (by decide +kernel), by decide, by decide, by decide +kernel, by decide +kernel, by decide +kernel⟩
theorem im_X3_stepsToSell : Cond.instanceMethod yX3_stepsToSell ∈ TB_ := tbm 808 (by decide +kernel) (by decide +kernel)
theorem se_X3_stepsToSell : Cond.selects yX3_stepsToSell.cls yX3_stepsToSell yX3_stepsToSell ∈ TB_ := tbm 809 (by decide +kernel) (by decide +kernel)
theorem ml_X11_320 : Cond.methodLink RX11 320 yX3_stepsToSell ∈ TB_ := tbm 807 (by decide +kernel) (by decide +kernel)
set_option maxRecDepth 100000 in
theorem cb_X10_append : CB_ yX10_append cX10_append 4 none 1 := ⟨tbm 818 rfl rfl, tbm 9 (by decide +kernel) (by decide +kernel), by decide, by decide, by decide +kernel, by decide +kernel, by decide +kernel⟩
theorem im_X10_append : Cond.instanceMethod yX10_append ∈ TB_ := tbm 816 (by decide +kernel) (by decide +kernel)
theorem se_X10_append : Cond.selects yX10_append.cls yX10_append yX10_append ∈ TB_ := tbm 817 (by decide +kernel) (by decide +kernel)
theorem ml_X11_326 : Cond.methodLink RX11 326 yX10_append ∈ TB_ := tbm 815 (by decide +kernel) (by decide +kernel)
set_option maxRecDepth 100000 in
theorem cb_X2_read : CB_ yX2_read cX2_read 4 none 1 := ⟨tbm 831 rfl rfl, tbm 10 (by decide +kernel) (by decide +kernel), by decide, by decide, by decide +kernel, by decide +kernel, by decide +kernel⟩
theorem im_X2_read : Cond.instanceMethod yX2_read ∈ TB_ := tbm 829 (by decide +kernel) (by decide +kernel)
theorem se_X2_read : Cond.selects yX2_read.cls yX2_read yX2_read ∈ TB_ := tbm 830 (by decide +kernel) (by decide +kernel)
theorem ml_X11_329 : Cond.methodLink RX11 329 yX2_read ∈ TB_ := tbm 828 (by decide +kernel) (by decide +kernel)
set_option maxRecDepth 100000 in
theorem cb_X3_yearCount : CB_ yX3_yearCount cX3_yearCount 2 (some .int) 1 := ⟨tbm 1008 rfl rfl, tbm 11 (by decide +kernel) (by decide +kernel), by decide, by decide, by decide +kernel, by decide +kernel, by decide +kernel⟩
theorem im_X3_yearCount : Cond.instanceMethod yX3_yearCount ∈ TB_ := tbm 1006 (by decide +kernel) (by decide +kernel)
theorem se_X3_yearCount : Cond.selects yX3_yearCount.cls yX3_yearCount yX3_yearCount ∈ TB_ := tbm 1007 (by decide +kernel) (by decide +kernel)
theorem ml_X11_353 : Cond.methodLink RX11 353 yX3_yearCount ∈ TB_ := tbm 1005 (by decide +kernel) (by decide +kernel)
set_option maxRecDepth 100000 in
theorem cb_X3_firstYear : CB_ yX3_firstYear cX3_firstYear 4 (some .int) 1 := ⟨tbm 1021 rfl rfl, tbm 11 (by decide +kernel) (by decide +kernel), by decide, by decide, by decide +kernel, by decide +kernel, by decide +kernel⟩
theorem im_X3_firstYear : Cond.instanceMethod yX3_firstYear ∈ TB_ := tbm 1019 (by decide +kernel) (by decide +kernel)
theorem se_X3_firstYear : Cond.selects yX3_firstYear.cls yX3_firstYear yX3_firstYear ∈ TB_ := tbm 1020 (by decide +kernel) (by decide +kernel)
theorem ml_X11_356 : Cond.methodLink RX11 356 yX3_firstYear ∈ TB_ := tbm 1023 (by decide +kernel) (by decide +kernel)
set_option maxRecDepth 100000 in
theorem cb_X3_lastYear : CB_ yX3_lastYear cX3_lastYear 4 (some .int) 1 := ⟨tbm 1016 rfl rfl, tbm 11 (by decide +kernel) (by decide +kernel), by decide, by decide, by decide +kernel, by decide +kernel, by decide +kernel⟩
theorem im_X3_lastYear : Cond.instanceMethod yX3_lastYear ∈ TB_ := tbm 1014 (by decide +kernel) (by decide +kernel)
theorem se_X3_lastYear : Cond.selects yX3_lastYear.cls yX3_lastYear yX3_lastYear ∈ TB_ := tbm 1015 (by decide +kernel) (by decide +kernel)
theorem ml_X11_359 : Cond.methodLink RX11 359 yX3_lastYear ∈ TB_ := tbm 1024 (by decide +kernel) (by decide +kernel)
set_option maxRecDepth 100000 in
theorem cb_X3_mayBeOf : CB_ yX3_mayBeOf cX3_mayBeOf 3 (some .boolean) 2 := ⟨tbm 1032 rfl rfl, tbm 11 (by decide +kernel) (by decide +kernel), by decide, by decide, by decide +kernel, by decide +kernel, by decide +kernel⟩
theorem im_X3_mayBeOf : Cond.instanceMethod yX3_mayBeOf ∈ TB_ := tbm 1030 (by decide +kernel) (by decide +kernel)
theorem se_X3_mayBeOf : Cond.selects yX3_mayBeOf.cls yX3_mayBeOf yX3_mayBeOf ∈ TB_ := tbm 1031 (by decide +kernel) (by decide +kernel)
theorem ml_X11_362 : Cond.methodLink RX11 362 yX3_mayBeOf ∈ TB_ := tbm 1029 (by decide +kernel) (by decide +kernel)
set_option maxRecDepth 100000 in
theorem cb_X5_howMany : CB_ yX5_howMany cX5_howMany 4 (some .int) 1 := ⟨tbm 1041 rfl rfl, tbm 8 (by decide +kernel) (by decide +kernel), by decide, by decide, by decide +kernel, by decide +kernel, by decide +kernel⟩
theorem im_X5_howMany : Cond.instanceMethod yX5_howMany ∈ TB_ := tbm 1039 (by decide +kernel) (by decide +kernel)
theorem se_X5_howMany : Cond.selects yX5_howMany.cls yX5_howMany yX5_howMany ∈ TB_ := tbm 1040 (by decide +kernel) (by decide +kernel)
theorem ml_X11_365 : Cond.methodLink RX11 365 yX5_howMany ∈ TB_ := tbm 1038 (by decide +kernel) (by decide +kernel)
set_option maxRecDepth 100000 in
theorem cb_X5_sumIn : CB_ yX5_sumIn cX5_sumIn 5 (some .int) 2 := ⟨tbm 1045 rfl rfl, tbm 8 (by decide +kernel) (by decide +kernel), by decide, by decide, by decide +kernel, by decide +kernel, by decide +kernel⟩
theorem im_X5_sumIn : Cond.instanceMethod yX5_sumIn ∈ TB_ := tbm 1043 (by decide +kernel) (by decide +kernel)
theorem se_X5_sumIn : Cond.selects yX5_sumIn.cls yX5_sumIn yX5_sumIn ∈ TB_ := tbm 1044 (by decide +kernel) (by decide +kernel)
theorem ml_X11_368 : Cond.methodLink RX11 368 yX5_sumIn ∈ TB_ := tbm 1042 (by decide +kernel) (by decide +kernel)
set_option maxRecDepth 100000 in
theorem cb_X5_isOff : CB_ yX5_isOff cX5_isOff 4 (some .boolean) 2 := ⟨tbm 1049 rfl rfl, tbm 8 (by decide +kernel) (by decide +kernel), by decide, by decide, by decide +kernel, by decide +kernel, by decide +kernel⟩
theorem im_X5_isOff : Cond.instanceMethod yX5_isOff ∈ TB_ := tbm 1047 (by decide +kernel) (by decide +kernel)
theorem se_X5_isOff : Cond.selects yX5_isOff.cls yX5_isOff yX5_isOff ∈ TB_ := tbm 1048 (by decide +kernel) (by decide +kernel)
theorem ml_X11_375 : Cond.methodLink RX11 375 yX5_isOff ∈ TB_ := tbm 1046 (by decide +kernel) (by decide +kernel)
set_option maxRecDepth 100000 in
theorem cb_X5_longestRun : CB_ yX5_longestRun cX5_longestRun 6 (some .int) 1 := ⟨tbm 1062 rfl rfl, tbm 8 (by decide +kernel) (by decide +kernel), by decide, by decide, by decide +kernel, by decide +kernel, by decide +kernel⟩
theorem im_X5_longestRun : Cond.instanceMethod yX5_longestRun ∈ TB_ := tbm 1060 (by decide +kernel) (by decide +kernel)
theorem se_X5_longestRun : Cond.selects yX5_longestRun.cls yX5_longestRun yX5_longestRun ∈ TB_ := tbm 1061 (by decide +kernel) (by decide +kernel)
theorem ml_X11_378 : Cond.methodLink RX11 378 yX5_longestRun ∈ TB_ := tbm 1059 (by decide +kernel) (by decide +kernel)
set_option maxRecDepth 100000 in
theorem cb_X5_isWorse : CB_ yX5_isWorse cX5_isWorse 3 (some .boolean) 2 := ⟨tbm 1070 rfl rfl, tbm 8 (by decide +kernel) (by decide +kernel), by decide, by decide, by decide +kernel, by decide +kernel, by decide +kernel⟩
theorem im_X5_isWorse : Cond.instanceMethod yX5_isWorse ∈ TB_ := tbm 1068 (by decide +kernel) (by decide +kernel)
theorem se_X5_isWorse : Cond.selects yX5_isWorse.cls yX5_isWorse yX5_isWorse ∈ TB_ := tbm 1069 (by decide +kernel) (by decide +kernel)
theorem ml_X11_381 : Cond.methodLink RX11 381 yX5_isWorse ∈ TB_ := tbm 1067 (by decide +kernel) (by decide +kernel)
set_option maxRecDepth 100000 in
theorem cb_X8_renew : CB_ yX8_renew cX8_renew 4 none 2 := ⟨tbm 1078 rfl rfl, tbm 12 (by decide +kernel) (by decide +kernel), by decide, by decide, by decide +kernel, by decide +kernel, by decide +kernel⟩
theorem im_X8_renew : Cond.instanceMethod yX8_renew ∈ TB_ := tbm 1076 (by decide +kernel) (by decide +kernel)
theorem se_X8_renew : Cond.selects yX8_renew.cls yX8_renew yX8_renew ∈ TB_ := tbm 1077 (by decide +kernel) (by decide +kernel)
theorem ml_X11_384 : Cond.methodLink RX11 384 yX8_renew ∈ TB_ := tbm 1075 (by decide +kernel) (by decide +kernel)
set_option maxRecDepth 100000 in
theorem cb_X8_isNothing : CB_ yX8_isNothing cX8_isNothing 1 (some .boolean) 0 := ⟨tbm 1086 rfl rfl, tbm 12 (by decide +kernel) (by decide +kernel), by decide, by decide, by decide +kernel, by decide +kernel, by decide +kernel⟩
theorem im_X8_isNothing : Cond.instanceMethod yX8_isNothing ∈ TB_ := tbm 1084 (by decide +kernel) (by decide +kernel)
theorem se_X8_isNothing : Cond.selects yX8_isNothing.cls yX8_isNothing yX8_isNothing ∈ TB_ := tbm 1085 (by decide +kernel) (by decide +kernel)
theorem ml_X11_385 : Cond.methodLink RX11 385 yX8_isNothing ∈ TB_ := tbm 1083 (by decide +kernel) (by decide +kernel)
set_option maxRecDepth 100000 in
theorem cb_X8_has : CB_ yX8_has cX8_has 2 (some .boolean) 1 := ⟨tbm 1090 rfl rfl, tbm 12 (by decide +kernel) (by decide +kernel), by decide, by decide, by decide +kernel, by decide +kernel, by decide +kernel⟩
theorem im_X8_has : Cond.instanceMethod yX8_has ∈ TB_ := tbm 1088 (by decide +kernel) (by decide +kernel)
theorem se_X8_has : Cond.selects yX8_has.cls yX8_has yX8_has ∈ TB_ := tbm 1089 (by decide +kernel) (by decide +kernel)
theorem ml_X11_389 : Cond.methodLink RX11 389 yX8_has ∈ TB_ := tbm 1087 (by decide +kernel) (by decide +kernel)
set_option maxRecDepth 100000 in
theorem cb_X8_put : CB_ yX8_put cX8_put 3 none 2 := ⟨tbm 1095 rfl rfl, tbm 12 (by decide +kernel) (by decide +kernel), by decide, by decide, by decide +kernel, by decide +kernel, by decide +kernel⟩
theorem im_X8_put : Cond.instanceMethod yX8_put ∈ TB_ := tbm 1093 (by decide +kernel) (by decide +kernel)
theorem se_X8_put : Cond.selects yX8_put.cls yX8_put yX8_put ∈ TB_ := tbm 1094 (by decide +kernel) (by decide +kernel)
theorem ml_X11_390 : Cond.methodLink RX11 390 yX8_put ∈ TB_ := tbm 1092 (by decide +kernel) (by decide +kernel)
set_option maxRecDepth 100000 in
theorem cb_X11_refusalOf : CB_ yX11_refusalOf cX11_refusalOf 5 (some .int) 2 := ⟨tbm 1103 rfl rfl, tbm 1 (by decide +kernel) (by decide +kernel), by decide, by decide, by decide +kernel, by decide +kernel, by decide +kernel⟩
theorem im_X11_refusalOf : Cond.instanceMethod yX11_refusalOf ∈ TB_ := tbm 1102 (by decide +kernel) (by decide +kernel)
theorem se_X11_refusalOf : Cond.selects yX11_refusalOf.cls yX11_refusalOf yX11_refusalOf ∈ TB_ := tbs 42 (q := (yX11_refusalOf, 14)) (by decide +kernel)
theorem ml_X11_396 : Cond.methodLink RX11 396 yX11_refusalOf ∈ TB_ := tbm 1100 (by decide +kernel) (by decide +kernel)
set_option maxRecDepth 100000 in
theorem cb_X11_copyOnBoard : CB_ yX11_copyOnBoard cX11_copyOnBoard 7 none 2 := ⟨tbm 1107 rfl rfl, tbm 1 (by decide +kernel) (by decide +kernel), by decide, by decide, by decide +kernel, by decide +kernel, by decide +kernel⟩
theorem im_X11_copyOnBoard : Cond.instanceMethod yX11_copyOnBoard ∈ TB_ := tbm 1106 (by decide +kernel) (by decide +kernel)
theorem se_X11_copyOnBoard : Cond.selects yX11_copyOnBoard.cls yX11_copyOnBoard yX11_copyOnBoard ∈ TB_ := tbs 43 (q := (yX11_copyOnBoard, 14)) (by decide +kernel)
theorem ml_X11_400 : Cond.methodLink RX11 400 yX11_copyOnBoard ∈ TB_ := tbm 1104 (by decide +kernel) (by decide +kernel)
set_option maxRecDepth 100000 in
theorem cb_X11_lotsOff : CB_ yX11_lotsOff cX11_lotsOff 3 (some .int) 0 := ⟨tbm 1121 rfl rfl, tbm 1 (by decide +kernel) (by decide +kernel), by decide, by decide, by decide +kernel, by decide +kernel, by decide +kernel⟩
theorem im_X11_lotsOff : Cond.instanceMethod yX11_lotsOff ∈ TB_ := tbm 1120 (by decide +kernel) (by decide +kernel)
theorem se_X11_lotsOff : Cond.selects yX11_lotsOff.cls yX11_lotsOff yX11_lotsOff ∈ TB_ := tbs 44 (q := (yX11_lotsOff, 14)) (by decide +kernel)
theorem ml_X11_411 : Cond.methodLink RX11 411 yX11_lotsOff ∈ TB_ := tbm 1118 (by decide +kernel) (by decide +kernel)
set_option maxRecDepth 100000 in
theorem cb_X11_soldOn : CB_ yX11_soldOn cX11_soldOn 4 (some .int) 0 := ⟨tbm 1125 rfl rfl, tbm 1 (by decide +kernel) (by decide +kernel), by decide, by decide, by decide +kernel, by decide +kernel, by decide +kernel⟩
theorem im_X11_soldOn : Cond.instanceMethod yX11_soldOn ∈ TB_ := tbm 1124 (by decide +kernel) (by decide +kernel)
theorem se_X11_soldOn : Cond.selects yX11_soldOn.cls yX11_soldOn yX11_soldOn ∈ TB_ := tbs 45 (q := (yX11_soldOn, 14)) (by decide +kernel)
theorem ml_X11_415 : Cond.methodLink RX11 415 yX11_soldOn ∈ TB_ := tbm 1122 (by decide +kernel) (by decide +kernel)
set_option maxRecDepth 100000 in
theorem cb_X1_copyFrom : CB_ yX1_copyFrom cX1_copyFrom 2 none 1 := ⟨tbm 480 rfl rfl, tbm 2 (by decide +kernel) (by decide +kernel), by decide, by decide, by decide +kernel, by decide +kernel, by decide +kernel⟩
theorem im_X1_copyFrom : Cond.instanceMethod yX1_copyFrom ∈ TB_ := tbm 478 (by decide +kernel) (by decide +kernel)
theorem se_X1_copyFrom : Cond.selects yX1_copyFrom.cls yX1_copyFrom yX1_copyFrom ∈ TB_ := tbm 479 (by decide +kernel) (by decide +kernel)
theorem ml_X0_25 : Cond.methodLink RX0 25 yX1_copyFrom ∈ TB_ := tbm 477 (by decide +kernel) (by decide +kernel)
theorem ml_X1_49 : Cond.methodLink RX1 49 yX1_soundness ∈ TB_ := tbm 553 (by decide +kernel) (by decide +kernel)
set_option maxRecDepth 100000 in
theorem cb_X3_forget : CB_ yX3_forget cX3_forget 2 none 0 := ⟨tbm 348 rfl rfl, tbm 11 (by decide +kernel) (by decide +kernel), by decide, by decide, by decide +kernel, by decide +kernel, by decide +kernel⟩
theorem im_X3_forget : Cond.instanceMethod yX3_forget ∈ TB_ := tbm 346 (by decide +kernel) (by decide +kernel)
theorem se_X3_forget : Cond.selects yX3_forget.cls yX3_forget yX3_forget ∈ TB_ := tbm 347 (by decide +kernel) (by decide +kernel)
theorem ml_X2_36 : Cond.methodLink RX2 36 yX3_forget ∈ TB_ := tbm 832 (by decide +kernel) (by decide +kernel)
set_option maxRecDepth 100000 in
theorem cb_X10_split : CB_ yX10_split cX10_split 4 none 0 := ⟨tbm 836 rfl rfl, tbm 9 (by decide +kernel) (by decide +kernel), by decide, by decide, by decide +kernel, by decide +kernel, by decide +kernel⟩
theorem im_X10_split : Cond.instanceMethod yX10_split ∈ TB_ := tbm 834 (by decide +kernel) (by decide +kernel)
theorem se_X10_split : Cond.selects yX10_split.cls yX10_split yX10_split ∈ TB_ := tbm 835 (by decide +kernel) (by decide +kernel)
theorem ml_X2_41 : Cond.methodLink RX2 41 yX10_split ∈ TB_ := tbm 833 (by decide +kernel) (by decide +kernel)
set_option maxRecDepth 100000 in
theorem cb_X2_readLaw : CB_ yX2_readLaw cX2_readLaw 3 (some .boolean) 1 := ⟨tbm 918 rfl rfl, tbm 10 (by decide +kernel) (by decide +kernel), by decide, by decide, by decide +kernel, by decide +kernel, by decide +kernel⟩
theorem im_X2_readLaw : Cond.instanceMethod yX2_readLaw ∈ TB_ := tbm 917 (by decide +kernel) (by decide +kernel)
theorem se_X2_readLaw : Cond.selects yX2_readLaw.cls yX2_readLaw yX2_readLaw ∈ TB_ := tbs 30 (q := (yX2_readLaw, 7)) (by decide +kernel)
theorem ml_X2_44 : Cond.methodLink RX2 44 yX2_readLaw ∈ TB_ := tbm 915 (by decide +kernel) (by decide +kernel)
set_option maxRecDepth 100000 in
theorem cb_X2_advance : CB_ yX2_advance cX2_advance 1 none 0 := ⟨tbm 922 rfl rfl, tbm 10 (by decide +kernel) (by decide +kernel), by decide, by decide, by decide +kernel, by decide +kernel, by decide +kernel⟩
theorem im_X2_advance : Cond.instanceMethod yX2_advance ∈ TB_ := tbm 921 (by decide +kernel) (by decide +kernel)
theorem se_X2_advance : Cond.selects yX2_advance.cls yX2_advance yX2_advance ∈ TB_ := tbs 31 (q := (yX2_advance, 7)) (by decide +kernel)
theorem ml_X2_48 : Cond.methodLink RX2 48 yX2_advance ∈ TB_ := tbm 919 (by decide +kernel) (by decide +kernel)
set_option maxRecDepth 100000 in
theorem cb_X2_readStamp : CB_ yX2_readStamp cX2_readStamp 4 (some .boolean) 1 := ⟨tbm 926 rfl rfl, tbm 10 (by decide +kernel) (by decide +kernel), by decide, by decide, by decide +kernel, by decide +kernel, by decide +kernel⟩
theorem im_X2_readStamp : Cond.instanceMethod yX2_readStamp ∈ TB_ := tbm 925 (by decide +kernel) (by decide +kernel)
theorem se_X2_readStamp : Cond.selects yX2_readStamp.cls yX2_readStamp yX2_readStamp ∈ TB_ := tbs 32 (q := (yX2_readStamp, 7)) (by decide +kernel)
theorem ml_X2_51 : Cond.methodLink RX2 51 yX2_readStamp ∈ TB_ := tbm 923 (by decide +kernel) (by decide +kernel)
set_option maxRecDepth 100000 in
theorem cb_X2_readBar : CB_ yX2_readBar cX2_readBar 3 (some .boolean) 1 := ⟨tbm 951 rfl rfl, tbm 10 (by decide +kernel) (by decide +kernel), by decide, by decide, by decide +kernel, by decide +kernel, by decide +kernel⟩
theorem im_X2_readBar : Cond.instanceMethod yX2_readBar ∈ TB_ := tbm 950 (by decide +kernel) (by decide +kernel)
theorem se_X2_readBar : Cond.selects yX2_readBar.cls yX2_readBar yX2_readBar ∈ TB_ := tbs 36 (q := (yX2_readBar, 7)) (by decide +kernel)
theorem ml_X2_54 : Cond.methodLink RX2 54 yX2_readBar ∈ TB_ := tbm 948 (by decide +kernel) (by decide +kernel)
set_option maxRecDepth 100000 in
theorem cb_X2_readLimit : CB_ yX2_readLimit cX2_readLimit 2 (some .boolean) 1 := ⟨tbm 959 rfl rfl, tbm 10 (by decide +kernel) (by decide +kernel), by decide, by decide, by decide +kernel, by decide +kernel, by decide +kernel⟩
theorem im_X2_readLimit : Cond.instanceMethod yX2_readLimit ∈ TB_ := tbm 958 (by decide +kernel) (by decide +kernel)
theorem se_X2_readLimit : Cond.selects yX2_readLimit.cls yX2_readLimit yX2_readLimit ∈ TB_ := tbs 37 (q := (yX2_readLimit, 7)) (by decide +kernel)
theorem ml_X2_57 : Cond.methodLink RX2 57 yX2_readLimit ∈ TB_ := tbm 956 (by decide +kernel) (by decide +kernel)
set_option maxRecDepth 100000 in
theorem cb_X2_readLeast : CB_ yX2_readLeast cX2_readLeast 3 (some .boolean) 1 := ⟨tbm 967 rfl rfl, tbm 10 (by decide +kernel) (by decide +kernel), by decide, by decide, by decide +kernel, by decide +kernel, by decide +kernel⟩
theorem im_X2_readLeast : Cond.instanceMethod yX2_readLeast ∈ TB_ := tbm 966 (by decide +kernel) (by decide +kernel)
theorem se_X2_readLeast : Cond.selects yX2_readLeast.cls yX2_readLeast yX2_readLeast ∈ TB_ := tbs 38 (q := (yX2_readLeast, 7)) (by decide +kernel)
theorem ml_X2_60 : Cond.methodLink RX2 60 yX2_readLeast ∈ TB_ := tbm 964 (by decide +kernel) (by decide +kernel)
set_option maxRecDepth 100000 in
theorem cb_X2_readSecond : CB_ yX2_readSecond cX2_readSecond 3 (some .boolean) 1 := ⟨tbm 979 rfl rfl, tbm 10 (by decide +kernel) (by decide +kernel), by decide, by decide, by decide +kernel, by decide +kernel, by decide +kernel⟩
theorem im_X2_readSecond : Cond.instanceMethod yX2_readSecond ∈ TB_ := tbm 978 (by decide +kernel) (by decide +kernel)
theorem se_X2_readSecond : Cond.selects yX2_readSecond.cls yX2_readSecond yX2_readSecond ∈ TB_ := tbs 39 (q := (yX2_readSecond, 7)) (by decide +kernel)
theorem ml_X2_63 : Cond.methodLink RX2 63 yX2_readSecond ∈ TB_ := tbm 976 (by decide +kernel) (by decide +kernel)
set_option maxRecDepth 100000 in
theorem cb_X2_fail : CB_ yX2_fail cX2_fail 2 (some .boolean) 1 := ⟨tbm 938 rfl rfl, tbm 10 (by decide +kernel) (by decide +kernel), by decide, by decide, by decide +kernel, by decide +kernel, by decide +kernel⟩
theorem im_X2_fail : Cond.instanceMethod yX2_fail ∈ TB_ := tbm 937 (by decide +kernel) (by decide +kernel)
theorem se_X2_fail : Cond.selects yX2_fail.cls yX2_fail yX2_fail ∈ TB_ := tbs 35 (q := (yX2_fail, 7)) (by decide +kernel)
theorem ml_X2_66 : Cond.methodLink RX2 66 yX2_fail ∈ TB_ := tbm 935 (by decide +kernel) (by decide +kernel)
set_option maxRecDepth 100000 in
theorem cb_X2_expect : CB_ yX2_expect cX2_expect 2 (some .boolean) 1 := ⟨tbm 934 rfl rfl, tbm 10 (by decide +kernel) (by decide +kernel), by decide, by decide, by decide +kernel, by decide +kernel, by decide +kernel⟩
theorem im_X2_expect : Cond.instanceMethod yX2_expect ∈ TB_ := tbm 933 (by decide +kernel) (by decide +kernel)
theorem se_X2_expect : Cond.selects yX2_expect.cls yX2_expect yX2_expect ∈ TB_ := tbs 34 (q := (yX2_expect, 7)) (by decide +kernel)
theorem ml_X2_70 : Cond.methodLink RX2 70 yX2_expect ∈ TB_ := tbm 931 (by decide +kernel) (by decide +kernel)
set_option maxRecDepth 100000 in
theorem cb_X2_expectNumber : CB_ yX2_expectNumber cX2_expectNumber 3 (some .boolean) 2 := ⟨tbm 930 rfl rfl, tbm 10 (by decide +kernel) (by decide +kernel), by decide, by decide, by decide +kernel, by decide +kernel, by decide +kernel⟩
theorem im_X2_expectNumber : Cond.instanceMethod yX2_expectNumber ∈ TB_ := tbm 929 (by decide +kernel) (by decide +kernel)
theorem se_X2_expectNumber : Cond.selects yX2_expectNumber.cls yX2_expectNumber yX2_expectNumber ∈ TB_ := tbs 33 (q := (yX2_expectNumber, 7)) (by decide +kernel)
theorem ml_X2_76 : Cond.methodLink RX2 76 yX2_expectNumber ∈ TB_ := tbm 927 (by decide +kernel) (by decide +kernel)
set_option maxRecDepth 100000 in
theorem cb_X3_hasStamp : CB_ yX3_hasStamp cX3_hasStamp 2 (some .boolean) 1 := ⟨tbm 943 rfl rfl, tbm 11 (by decide +kernel) (by decide +kernel), by decide, by decide, by decide +kernel, by decide +kernel, by decide +kernel⟩
theorem im_X3_hasStamp : Cond.instanceMethod yX3_hasStamp ∈ TB_ := tbm 941 (by decide +kernel) (by decide +kernel)
theorem se_X3_hasStamp : Cond.selects yX3_hasStamp.cls yX3_hasStamp yX3_hasStamp ∈ TB_ := tbm 942 (by decide +kernel) (by decide +kernel)
theorem ml_X2_80 : Cond.methodLink RX2 80 yX3_hasStamp ∈ TB_ := tbm 940 (by decide +kernel) (by decide +kernel)
set_option maxRecDepth 100000 in
theorem cb_X3_tellStamp : CB_ yX3_tellStamp cX3_tellStamp 4 none 3 := ⟨tbm 947 rfl rfl, tbm 11 (by decide +kernel) (by decide +kernel), by decide, by decide, by decide +kernel, by decide +kernel, by decide +kernel⟩
theorem im_X3_tellStamp : Cond.instanceMethod yX3_tellStamp ∈ TB_ := tbm 945 (by decide +kernel) (by decide +kernel)
theorem se_X3_tellStamp : Cond.selects yX3_tellStamp.cls yX3_tellStamp yX3_tellStamp ∈ TB_ := tbm 946 (by decide +kernel) (by decide +kernel)
theorem ml_X2_83 : Cond.methodLink RX2 83 yX3_tellStamp ∈ TB_ := tbm 944 (by decide +kernel) (by decide +kernel)
set_option maxRecDepth 100000 in
theorem cb_X3_tellBar : CB_ yX3_tellBar cX3_tellBar 3 none 2 := ⟨tbm 955 rfl rfl, tbm 11 (by decide +kernel) (by decide +kernel), by decide, by decide, by decide +kernel, by decide +kernel, by decide +kernel⟩
theorem im_X3_tellBar : Cond.instanceMethod yX3_tellBar ∈ TB_ := tbm 953 (by decide +kernel) (by decide +kernel)
theorem se_X3_tellBar : Cond.selects yX3_tellBar.cls yX3_tellBar yX3_tellBar ∈ TB_ := tbm 954 (by decide +kernel) (by decide +kernel)
theorem ml_X2_87 : Cond.methodLink RX2 87 yX3_tellBar ∈ TB_ := tbm 952 (by decide +kernel) (by decide +kernel)
set_option maxRecDepth 100000 in
theorem cb_X3_tellLimit : CB_ yX3_tellLimit cX3_tellLimit 2 none 1 := ⟨tbm 963 rfl rfl, tbm 11 (by decide +kernel) (by decide +kernel), by decide, by decide, by decide +kernel, by decide +kernel, by decide +kernel⟩
theorem im_X3_tellLimit : Cond.instanceMethod yX3_tellLimit ∈ TB_ := tbm 961 (by decide +kernel) (by decide +kernel)
theorem se_X3_tellLimit : Cond.selects yX3_tellLimit.cls yX3_tellLimit yX3_tellLimit ∈ TB_ := tbm 962 (by decide +kernel) (by decide +kernel)
theorem ml_X2_95 : Cond.methodLink RX2 95 yX3_tellLimit ∈ TB_ := tbm 960 (by decide +kernel) (by decide +kernel)
set_option maxRecDepth 100000 in
theorem cb_X3_hasLeast : CB_ yX3_hasLeast cX3_hasLeast 2 (some .boolean) 1 := ⟨tbm 971 rfl rfl, tbm 11 (by decide +kernel) (by decide +kernel), by decide, by decide, by decide +kernel, by decide +kernel, by decide +kernel⟩
theorem im_X3_hasLeast : Cond.instanceMethod yX3_hasLeast ∈ TB_ := tbm 969 (by decide +kernel) (by decide +kernel)
theorem se_X3_hasLeast : Cond.selects yX3_hasLeast.cls yX3_hasLeast yX3_hasLeast ∈ TB_ := tbm 970 (by decide +kernel) (by decide +kernel)
theorem ml_X2_99 : Cond.methodLink RX2 99 yX3_hasLeast ∈ TB_ := tbm 968 (by decide +kernel) (by decide +kernel)
set_option maxRecDepth 100000 in
theorem cb_X3_tellLeast : CB_ yX3_tellLeast cX3_tellLeast 3 none 2 := ⟨tbm 975 rfl rfl, tbm 11 (by decide +kernel) (by decide +kernel), by decide, by decide, by decide +kernel, by decide +kernel, by decide +kernel⟩
theorem im_X3_tellLeast : Cond.instanceMethod yX3_tellLeast ∈ TB_ := tbm 973 (by decide +kernel) (by decide +kernel)
theorem se_X3_tellLeast : Cond.selects yX3_tellLeast.cls yX3_tellLeast yX3_tellLeast ∈ TB_ := tbm 974 (by decide +kernel) (by decide +kernel)
theorem ml_X2_102 : Cond.methodLink RX2 102 yX3_tellLeast ∈ TB_ := tbm 972 (by decide +kernel) (by decide +kernel)
set_option maxRecDepth 100000 in
theorem cb_X3_hasSecond : CB_ yX3_hasSecond cX3_hasSecond 2 (some .boolean) 1 := ⟨tbm 983 rfl rfl, tbm 11 (by decide +kernel) (by decide +kernel), by decide, by decide, by decide +kernel, by decide +kernel, by decide +kernel⟩
theorem im_X3_hasSecond : Cond.instanceMethod yX3_hasSecond ∈ TB_ := tbm 981 (by decide +kernel) (by decide +kernel)
theorem se_X3_hasSecond : Cond.selects yX3_hasSecond.cls yX3_hasSecond yX3_hasSecond ∈ TB_ := tbm 982 (by decide +kernel) (by decide +kernel)
theorem ml_X2_105 : Cond.methodLink RX2 105 yX3_hasSecond ∈ TB_ := tbm 980 (by decide +kernel) (by decide +kernel)
set_option maxRecDepth 100000 in
theorem cb_X3_leadsTo : CB_ yX3_leadsTo cX3_leadsTo 5 (some .boolean) 2 := ⟨tbm 987 rfl rfl, tbm 11 (by decide +kernel) (by decide +kernel), by decide, by decide, by decide +kernel, by decide +kernel, by decide +kernel⟩
theorem im_X3_leadsTo : Cond.instanceMethod yX3_leadsTo ∈ TB_ := tbm 985 (by decide +kernel) (by decide +kernel)
theorem se_X3_leadsTo : Cond.selects yX3_leadsTo.cls yX3_leadsTo yX3_leadsTo ∈ TB_ := tbm 986 (by decide +kernel) (by decide +kernel)
theorem ml_X2_108 : Cond.methodLink RX2 108 yX3_leadsTo ∈ TB_ := tbm 984 (by decide +kernel) (by decide +kernel)
theorem ml_X3_44 : Cond.methodLink RX3 44 yX3_forget ∈ TB_ := tbm 345 (by decide +kernel) (by decide +kernel)
set_option maxRecDepth 100000 in
theorem cb_X3_clash : CB_ yX3_clash cX3_clash 3 (some .boolean) 1 := ⟨tbm 1012 rfl rfl, tbm 11 (by decide +kernel) (by decide +kernel), by decide, by decide, by decide +kernel, by decide +kernel, by decide +kernel⟩
theorem im_X3_clash : Cond.instanceMethod yX3_clash ∈ TB_ := tbm 1011 (by decide +kernel) (by decide +kernel)
theorem se_X3_clash : Cond.selects yX3_clash.cls yX3_clash yX3_clash ∈ TB_ := tbs 40 (q := (yX3_clash, 10)) (by decide +kernel)
theorem ml_X3_56 : Cond.methodLink RX3 56 yX3_clash ∈ TB_ := tbm 1009 (by decide +kernel) (by decide +kernel)
theorem ml_X3_60 : Cond.methodLink RX3 60 yX3_lastYear ∈ TB_ := tbm 1013 (by decide +kernel) (by decide +kernel)
theorem ml_X3_64 : Cond.methodLink RX3 64 yX3_firstYear ∈ TB_ := tbm 1018 (by decide +kernel) (by decide +kernel)
theorem ml_X4_56 : Cond.methodLink RX4 56 yX7_isOf ∈ TB_ := tbm 715 (by decide +kernel) (by decide +kernel)
set_option maxRecDepth 100000 in
theorem cb_X4_doesFor : CB_ yX4_doesFor cX4_doesFor 4 (some .boolean) 2 := ⟨tbm 714 rfl rfl, tbm 7 (by decide +kernel) (by decide +kernel), by decide, by decide, by decide +kernel, by decide +kernel, by decide +kernel⟩
theorem im_X4_doesFor : Cond.instanceMethod yX4_doesFor ∈ TB_ := tbm 713 (by decide +kernel) (by decide +kernel)
theorem se_X4_doesFor : Cond.selects yX4_doesFor.cls yX4_doesFor yX4_doesFor ∈ TB_ := tbs 18 (q := (yX4_doesFor, 11)) (by decide +kernel)
theorem ml_X4_71 : Cond.methodLink RX4 71 yX4_doesFor ∈ TB_ := tbm 711 (by decide +kernel) (by decide +kernel)
set_option maxRecDepth 100000 in
theorem cb_X4_findSuiting : CB_ yX4_findSuiting cX4_findSuiting 3 none 0 := ⟨tbm 739 rfl rfl, tbm 7 (by decide +kernel) (by decide +kernel), by decide, by decide, by decide +kernel, by decide +kernel, by decide +kernel⟩
theorem im_X4_findSuiting : Cond.instanceMethod yX4_findSuiting ∈ TB_ := tbm 738 (by decide +kernel) (by decide +kernel)
theorem se_X4_findSuiting : Cond.selects yX4_findSuiting.cls yX4_findSuiting yX4_findSuiting ∈ TB_ := tbs 19 (q := (yX4_findSuiting, 11)) (by decide +kernel)
theorem ml_X4_75 : Cond.methodLink RX4 75 yX4_findSuiting ∈ TB_ := tbm 736 (by decide +kernel) (by decide +kernel)
set_option maxRecDepth 100000 in
theorem cb_X4_bestSum : CB_ yX4_bestSum cX4_bestSum 7 (some .int) 2 := ⟨tbm 743 rfl rfl, tbm 7 (by decide +kernel) (by decide +kernel), by decide, by decide, by decide +kernel, by decide +kernel, by decide +kernel⟩
theorem im_X4_bestSum : Cond.instanceMethod yX4_bestSum ∈ TB_ := tbm 742 (by decide +kernel) (by decide +kernel)
theorem se_X4_bestSum : Cond.selects yX4_bestSum.cls yX4_bestSum yX4_bestSum ∈ TB_ := tbs 20 (q := (yX4_bestSum, 11)) (by decide +kernel)
theorem ml_X4_79 : Cond.methodLink RX4 79 yX4_bestSum ∈ TB_ := tbm 740 (by decide +kernel) (by decide +kernel)
set_option maxRecDepth 100000 in
theorem cb_X4_leastBlock : CB_ yX4_leastBlock cX4_leastBlock 7 (some .int) 4 := ⟨tbm 755 rfl rfl, tbm 7 (by decide +kernel) (by decide +kernel), by decide, by decide, by decide +kernel, by decide +kernel, by decide +kernel⟩
theorem im_X4_leastBlock : Cond.instanceMethod yX4_leastBlock ∈ TB_ := tbm 754 (by decide +kernel) (by decide +kernel)
theorem se_X4_leastBlock : Cond.selects yX4_leastBlock.cls yX4_leastBlock yX4_leastBlock ∈ TB_ := tbs 23 (q := (yX4_leastBlock, 11)) (by decide +kernel)
theorem ml_X4_83 : Cond.methodLink RX4 83 yX4_leastBlock ∈ TB_ := tbm 752 (by decide +kernel) (by decide +kernel)
set_option maxRecDepth 100000 in
theorem cb_X4_bestPaid : CB_ yX4_bestPaid cX4_bestPaid 5 (some .int) 1 := ⟨tbm 747 rfl rfl, tbm 7 (by decide +kernel) (by decide +kernel), by decide, by decide, by decide +kernel, by decide +kernel, by decide +kernel⟩
theorem im_X4_bestPaid : Cond.instanceMethod yX4_bestPaid ∈ TB_ := tbm 746 (by decide +kernel) (by decide +kernel)
theorem se_X4_bestPaid : Cond.selects yX4_bestPaid.cls yX4_bestPaid yX4_bestPaid ∈ TB_ := tbs 21 (q := (yX4_bestPaid, 11)) (by decide +kernel)
theorem ml_X4_87 : Cond.methodLink RX4 87 yX4_bestPaid ∈ TB_ := tbm 744 (by decide +kernel) (by decide +kernel)
set_option maxRecDepth 100000 in
theorem cb_X4_makeRoom : CB_ yX4_makeRoom cX4_makeRoom 5 (some .boolean) 2 := ⟨tbm 751 rfl rfl, tbm 7 (by decide +kernel) (by decide +kernel), by decide, by decide, by decide +kernel, by decide +kernel, by decide +kernel⟩
theorem im_X4_makeRoom : Cond.instanceMethod yX4_makeRoom ∈ TB_ := tbm 750 (by decide +kernel) (by decide +kernel)
theorem se_X4_makeRoom : Cond.selects yX4_makeRoom.cls yX4_makeRoom yX4_makeRoom ∈ TB_ := tbs 22 (q := (yX4_makeRoom, 11)) (by decide +kernel)
theorem ml_X4_91 : Cond.methodLink RX4 91 yX4_makeRoom ∈ TB_ := tbm 748 (by decide +kernel) (by decide +kernel)
theorem ml_X4_94 : Cond.methodLink RX4 94 yX4_add ∈ TB_ := tbm 774 (by decide +kernel) (by decide +kernel)
theorem ml_X5_47 : Cond.methodLink RX5 47 yX5_sumIn ∈ TB_ := tbm 1055 (by decide +kernel) (by decide +kernel)
theorem ml_X5_55 : Cond.methodLink RX5 55 yX5_howMany ∈ TB_ := tbm 1050 (by decide +kernel) (by decide +kernel)
set_option maxRecDepth 100000 in
theorem cb_X5_distanceOff : CB_ yX5_distanceOff cX5_distanceOff 2 (some .int) 1 := ⟨tbm 1054 rfl rfl, tbm 8 (by decide +kernel) (by decide +kernel), by decide, by decide, by decide +kernel, by decide +kernel, by decide +kernel⟩
theorem im_X5_distanceOff : Cond.instanceMethod yX5_distanceOff ∈ TB_ := tbm 1053 (by decide +kernel) (by decide +kernel)
theorem se_X5_distanceOff : Cond.selects yX5_distanceOff.cls yX5_distanceOff yX5_distanceOff ∈ TB_ := tbs 41 (q := (yX5_distanceOff, 7)) (by decide +kernel)
theorem ml_X5_58 : Cond.methodLink RX5 58 yX5_distanceOff ∈ TB_ := tbm 1051 (by decide +kernel) (by decide +kernel)
set_option maxRecDepth 100000 in
theorem cb_X6_markSquares : CB_ yX6_markSquares cX6_markSquares 5 none 0 := ⟨tbm 569 rfl rfl, tbm 5 (by decide +kernel) (by decide +kernel), by decide, by decide, by decide +kernel, by decide +kernel, by decide +kernel⟩
theorem im_X6_markSquares : Cond.instanceMethod yX6_markSquares ∈ TB_ := tbm 568 (by decide +kernel) (by decide +kernel)
theorem se_X6_markSquares : Cond.selects yX6_markSquares.cls yX6_markSquares yX6_markSquares ∈ TB_ := tbs 1 (q := (yX6_markSquares, 14)) (by decide +kernel)
theorem ml_X6_58 : Cond.methodLink RX6 58 yX6_markSquares ∈ TB_ := tbm 566 (by decide +kernel) (by decide +kernel)
set_option maxRecDepth 100000 in
theorem cb_X6_sortShapes : CB_ yX6_sortShapes cX6_sortShapes 4 none 0 := ⟨tbm 575 rfl rfl, tbm 5 (by decide +kernel) (by decide +kernel), by decide, by decide, by decide +kernel, by decide +kernel, by decide +kernel⟩
theorem im_X6_sortShapes : Cond.instanceMethod yX6_sortShapes ∈ TB_ := tbm 574 (by decide +kernel) (by decide +kernel)
theorem se_X6_sortShapes : Cond.selects yX6_sortShapes.cls yX6_sortShapes yX6_sortShapes ∈ TB_ := tbs 2 (q := (yX6_sortShapes, 14)) (by decide +kernel)
theorem ml_X6_61 : Cond.methodLink RX6 61 yX6_sortShapes ∈ TB_ := tbm 572 (by decide +kernel) (by decide +kernel)
set_option maxRecDepth 100000 in
theorem cb_X6_weighBand : CB_ yX6_weighBand cX6_weighBand 10 none 4 := ⟨tbm 579 rfl rfl, tbm 5 (by decide +kernel) (by decide +kernel), by decide, by decide, by decide +kernel, by decide +kernel, by decide +kernel⟩
theorem im_X6_weighBand : Cond.instanceMethod yX6_weighBand ∈ TB_ := tbm 578 (by decide +kernel) (by decide +kernel)
theorem se_X6_weighBand : Cond.selects yX6_weighBand.cls yX6_weighBand yX6_weighBand ∈ TB_ := tbs 3 (q := (yX6_weighBand, 14)) (by decide +kernel)
theorem ml_X6_64 : Cond.methodLink RX6 64 yX6_weighBand ∈ TB_ := tbm 576 (by decide +kernel) (by decide +kernel)
set_option maxRecDepth 100000 in
theorem cb_X6_markOf : CB_ yX6_markOf cX6_markOf 8 (some .int) 4 := ⟨tbm 583 rfl rfl, tbm 5 (by decide +kernel) (by decide +kernel), by decide, by decide, by decide +kernel, by decide +kernel, by decide +kernel⟩
theorem im_X6_markOf : Cond.instanceMethod yX6_markOf ∈ TB_ := tbm 582 (by decide +kernel) (by decide +kernel)
theorem se_X6_markOf : Cond.selects yX6_markOf.cls yX6_markOf yX6_markOf ∈ TB_ := tbs 4 (q := (yX6_markOf, 14)) (by decide +kernel)
theorem ml_X6_104 : Cond.methodLink RX6 104 yX6_markOf ∈ TB_ := tbm 580 (by decide +kernel) (by decide +kernel)
set_option maxRecDepth 100000 in
theorem cb_X6_bestPipe : CB_ yX6_bestPipe cX6_bestPipe 5 (some .int) 2 := ⟨tbm 590 rfl rfl, tbm 5 (by decide +kernel) (by decide +kernel), by decide, by decide, by decide +kernel, by decide +kernel, by decide +kernel⟩
theorem im_X6_bestPipe : Cond.instanceMethod yX6_bestPipe ∈ TB_ := tbm 589 (by decide +kernel) (by decide +kernel)
theorem se_X6_bestPipe : Cond.selects yX6_bestPipe.cls yX6_bestPipe yX6_bestPipe ∈ TB_ := tbs 5 (q := (yX6_bestPipe, 14)) (by decide +kernel)
theorem ml_X6_107 : Cond.methodLink RX6 107 yX6_bestPipe ∈ TB_ := tbm 587 (by decide +kernel) (by decide +kernel)
set_option maxRecDepth 100000 in
theorem cb_X6_bestDown : CB_ yX6_bestDown cX6_bestDown 8 (some .int) 2 := ⟨tbm 607 rfl rfl, tbm 5 (by decide +kernel) (by decide +kernel), by decide, by decide, by decide +kernel, by decide +kernel, by decide +kernel⟩
theorem im_X6_bestDown : Cond.instanceMethod yX6_bestDown ∈ TB_ := tbm 606 (by decide +kernel) (by decide +kernel)
theorem se_X6_bestDown : Cond.selects yX6_bestDown.cls yX6_bestDown yX6_bestDown ∈ TB_ := tbs 7 (q := (yX6_bestDown, 14)) (by decide +kernel)
theorem ml_X6_110 : Cond.methodLink RX6 110 yX6_bestDown ∈ TB_ := tbm 604 (by decide +kernel) (by decide +kernel)
set_option maxRecDepth 100000 in
theorem cb_X6_bestAcross : CB_ yX6_bestAcross cX6_bestAcross 8 (some .int) 2 := ⟨tbm 611 rfl rfl, tbm 5 (by decide +kernel) (by decide +kernel), by decide, by decide, by decide +kernel, by decide +kernel, by decide +kernel⟩
theorem im_X6_bestAcross : Cond.instanceMethod yX6_bestAcross ∈ TB_ := tbm 610 (by decide +kernel) (by decide +kernel)
theorem se_X6_bestAcross : Cond.selects yX6_bestAcross.cls yX6_bestAcross yX6_bestAcross ∈ TB_ := tbs 8 (q := (yX6_bestAcross, 14)) (by decide +kernel)
theorem ml_X6_113 : Cond.methodLink RX6 113 yX6_bestAcross ∈ TB_ := tbm 608 (by decide +kernel) (by decide +kernel)
set_option maxRecDepth 100000 in
theorem cb_X6_brings : CB_ yX6_brings cX6_brings 4 (some .int) 2 := ⟨tbm 594 rfl rfl, tbm 5 (by decide +kernel) (by decide +kernel), by decide, by decide, by decide +kernel, by decide +kernel, by decide +kernel⟩
theorem im_X6_brings : Cond.instanceMethod yX6_brings ∈ TB_ := tbm 593 (by decide +kernel) (by decide +kernel)
theorem se_X6_brings : Cond.selects yX6_brings.cls yX6_brings yX6_brings ∈ TB_ := tbs 6 (q := (yX6_brings, 14)) (by decide +kernel)
theorem ml_X6_133 : Cond.methodLink RX6 133 yX6_brings ∈ TB_ := tbm 591 (by decide +kernel) (by decide +kernel)
set_option maxRecDepth 100000 in
theorem cb_X6_firstCut : CB_ yX6_firstCut cX6_firstCut 7 (some .int) 4 := ⟨tbm 623 rfl rfl, tbm 5 (by decide +kernel) (by decide +kernel), by decide, by decide, by decide +kernel, by decide +kernel, by decide +kernel⟩
theorem im_X6_firstCut : Cond.instanceMethod yX6_firstCut ∈ TB_ := tbm 622 (by decide +kernel) (by decide +kernel)
theorem se_X6_firstCut : Cond.selects yX6_firstCut.cls yX6_firstCut yX6_firstCut ∈ TB_ := tbs 9 (q := (yX6_firstCut, 14)) (by decide +kernel)
theorem ml_X6_136 : Cond.methodLink RX6 136 yX6_firstCut ∈ TB_ := tbm 620 (by decide +kernel) (by decide +kernel)
set_option maxRecDepth 100000 in
theorem cb_X6_tallyBlock : CB_ yX6_tallyBlock cX6_tallyBlock 10 (some .int) 2 := ⟨tbm 639 rfl rfl, tbm 5 (by decide +kernel) (by decide +kernel), by decide, by decide, by decide +kernel, by decide +kernel, by decide +kernel⟩
theorem im_X6_tallyBlock : Cond.instanceMethod yX6_tallyBlock ∈ TB_ := tbm 638 (by decide +kernel) (by decide +kernel)
theorem se_X6_tallyBlock : Cond.selects yX6_tallyBlock.cls yX6_tallyBlock yX6_tallyBlock ∈ TB_ := tbs 11 (q := (yX6_tallyBlock, 14)) (by decide +kernel)
theorem ml_X6_139 : Cond.methodLink RX6 139 yX6_tallyBlock ∈ TB_ := tbm 636 (by decide +kernel) (by decide +kernel)
theorem ml_X6_142 : Cond.methodLink RX6 142 yX6_decide ∈ TB_ := tbm 640 (by decide +kernel) (by decide +kernel)
theorem ml_X9_28 : Cond.methodLink RX9 28 yX9_add ∈ TB_ := tbm 769 (by decide +kernel) (by decide +kernel)
set_option maxRecDepth 100000 in
theorem cb_X10_endOfToken : CB_ yX10_endOfToken cX10_endOfToken 3 (some .int) 1 := ⟨tbm 840 rfl rfl, tbm 9 (by decide +kernel) (by decide +kernel), by decide, by decide, by decide +kernel, by decide +kernel, by decide +kernel⟩
theorem im_X10_endOfToken : Cond.instanceMethod yX10_endOfToken ∈ TB_ := tbm 839 (by decide +kernel) (by decide +kernel)
theorem se_X10_endOfToken : Cond.selects yX10_endOfToken.cls yX10_endOfToken yX10_endOfToken ∈ TB_ := tbs 24 (q := (yX10_endOfToken, 6)) (by decide +kernel)
theorem ml_X10_31 : Cond.methodLink RX10 31 yX10_endOfToken ∈ TB_ := tbm 837 (by decide +kernel) (by decide +kernel)
set_option maxRecDepth 100000 in
theorem cb_X10_kindOf : CB_ yX10_kindOf cX10_kindOf 4 (some .int) 2 := ⟨tbm 845 rfl rfl, tbm 9 (by decide +kernel) (by decide +kernel), by decide, by decide, by decide +kernel, by decide +kernel, by decide +kernel⟩
theorem im_X10_kindOf : Cond.instanceMethod yX10_kindOf ∈ TB_ := tbm 844 (by decide +kernel) (by decide +kernel)
theorem se_X10_kindOf : Cond.selects yX10_kindOf.cls yX10_kindOf yX10_kindOf ∈ TB_ := tbs 25 (q := (yX10_kindOf, 6)) (by decide +kernel)
theorem ml_X10_35 : Cond.methodLink RX10 35 yX10_kindOf ∈ TB_ := tbm 842 (by decide +kernel) (by decide +kernel)
set_option maxRecDepth 100000 in
theorem cb_X10_valueOf : CB_ yX10_valueOf cX10_valueOf 5 (some .int) 2 := ⟨tbm 910 rfl rfl, tbm 9 (by decide +kernel) (by decide +kernel), by decide, by decide, by decide +kernel, by decide +kernel, by decide +kernel⟩
theorem im_X10_valueOf : Cond.instanceMethod yX10_valueOf ∈ TB_ := tbm 909 (by decide +kernel) (by decide +kernel)
theorem se_X10_valueOf : Cond.selects yX10_valueOf.cls yX10_valueOf yX10_valueOf ∈ TB_ := tbs 28 (q := (yX10_valueOf, 6)) (by decide +kernel)
theorem ml_X10_39 : Cond.methodLink RX10 39 yX10_valueOf ∈ TB_ := tbm 907 (by decide +kernel) (by decide +kernel)
set_option maxRecDepth 100000 in
theorem cb_X10_note : CB_ yX10_note cX10_note 4 none 3 := ⟨tbm 914 rfl rfl, tbm 9 (by decide +kernel) (by decide +kernel), by decide, by decide, by decide +kernel, by decide +kernel, by decide +kernel⟩
theorem im_X10_note : Cond.instanceMethod yX10_note ∈ TB_ := tbm 913 (by decide +kernel) (by decide +kernel)
theorem se_X10_note : Cond.selects yX10_note.cls yX10_note yX10_note ∈ TB_ := tbs 29 (q := (yX10_note, 6)) (by decide +kernel)
theorem ml_X10_42 : Cond.methodLink RX10 42 yX10_note ∈ TB_ := tbm 911 (by decide +kernel) (by decide +kernel)
set_option maxRecDepth 100000 in
theorem cb_X10_wordKind : CB_ yX10_wordKind cX10_wordKind 3 (some .int) 2 := ⟨tbm 849 rfl rfl, tbm 9 (by decide +kernel) (by decide +kernel), by decide, by decide, by decide +kernel, by decide +kernel, by decide +kernel⟩
theorem im_X10_wordKind : Cond.instanceMethod yX10_wordKind ∈ TB_ := tbm 848 (by decide +kernel) (by decide +kernel)
theorem se_X10_wordKind : Cond.selects yX10_wordKind.cls yX10_wordKind yX10_wordKind ∈ TB_ := tbs 26 (q := (yX10_wordKind, 6)) (by decide +kernel)
theorem ml_X10_52 : Cond.methodLink RX10 52 yX10_wordKind ∈ TB_ := tbm 846 (by decide +kernel) (by decide +kernel)
set_option maxRecDepth 100000 in
theorem cb_X10_spells : CB_ yX10_spells cX10_spells 5 (some .boolean) 3 := ⟨tbm 854 rfl rfl, tbm 9 (by decide +kernel) (by decide +kernel), by decide, by decide, by decide +kernel, by decide +kernel, by decide +kernel⟩
theorem im_X10_spells : Cond.instanceMethod yX10_spells ∈ TB_ := tbm 853 (by decide +kernel) (by decide +kernel)
theorem se_X10_spells : Cond.selects yX10_spells.cls yX10_spells yX10_spells ∈ TB_ := tbs 27 (q := (yX10_spells, 6)) (by decide +kernel)
theorem ml_X10_57 : Cond.methodLink RX10 57 yX10_spells ∈ TB_ := tbm 851 (by decide +kernel) (by decide +kernel)
theorem im_J0_length_8abf5 : Cond.instanceMethod yJ0_length_8abf5 ∈ TB_ := tbm 856 (by decide +kernel) (by decide +kernel)
theorem se_J0_length_8abf5 : Cond.selects yJ0_length_8abf5.cls yJ0_length_8abf5 yJ0_length_8abf5 ∈ TB_ := tbm 857 (by decide +kernel) (by decide +kernel)
theorem ml_X10_69 : Cond.methodLink RX10 69 yJ0_length_8abf5 ∈ TB_ := tbm 855 (by decide +kernel) (by decide +kernel)
theorem im_J0_charAt_5068e : Cond.instanceMethod yJ0_charAt_5068e ∈ TB_ := tbm 866 (by decide +kernel) (by decide +kernel)
theorem se_J0_charAt_5068e : Cond.selects yJ0_charAt_5068e.cls yJ0_charAt_5068e yJ0_charAt_5068e ∈ TB_ := tbm 867 (by decide +kernel) (by decide +kernel)
theorem ml_X10_74 : Cond.methodLink RX10 74 yJ0_charAt_5068e ∈ TB_ := tbm 865 (by decide +kernel) (by decide +kernel)
set_option maxRecDepth 100000 in
theorem cb_X12_forgets : CB_ yX12_forgets cX12_forgets 2 none 0 := ⟨tbm 1136 rfl rfl, tbm 13 (by decide +kernel) (by decide +kernel), by decide, by decide, by decide +kernel, by decide +kernel, by decide +kernel⟩
theorem im_X12_forgets : Cond.instanceMethod yX12_forgets ∈ TB_ := tbm 1135 (by decide +kernel) (by decide +kernel)
theorem se_X12_forgets : Cond.selects yX12_forgets.cls yX12_forgets yX12_forgets ∈ TB_ := tbs 46 (q := (yX12_forgets, 67)) (by decide +kernel)
theorem ml_X12_142 : Cond.methodLink RX12 142 yX12_forgets ∈ TB_ := tbm 1133 (by decide +kernel) (by decide +kernel)
set_option maxRecDepth 100000 in
theorem cb_X12_isSquare : CB_ yX12_isSquare cX12_isSquare 3 (some .boolean) 2 := ⟨tbm 1358 rfl rfl, tbm 13 (by decide +kernel) (by decide +kernel), by decide, by decide, by decide +kernel, by decide +kernel, by decide +kernel⟩
theorem im_X12_isSquare : Cond.instanceMethod yX12_isSquare ∈ TB_ := tbm 1357 (by decide +kernel) (by decide +kernel)
theorem se_X12_isSquare : Cond.selects yX12_isSquare.cls yX12_isSquare yX12_isSquare ∈ TB_ := tbs 48 (q := (yX12_isSquare, 67)) (by decide +kernel)
theorem ml_X12_149 : Cond.methodLink RX12 149 yX12_isSquare ∈ TB_ := tbm 1355 (by decide +kernel) (by decide +kernel)
set_option maxRecDepth 100000 in
theorem cb_X12_keeps : CB_ yX12_keeps cX12_keeps 2 none 0 := ⟨tbm 1362 rfl rfl, tbm 13 (by decide +kernel) (by decide +kernel), by decide, by decide, by decide +kernel, by decide +kernel, by decide +kernel⟩
theorem im_X12_keeps : Cond.instanceMethod yX12_keeps ∈ TB_ := tbm 1361 (by decide +kernel) (by decide +kernel)
theorem se_X12_keeps : Cond.selects yX12_keeps.cls yX12_keeps yX12_keeps ∈ TB_ := tbs 49 (q := (yX12_keeps, 67)) (by decide +kernel)
theorem ml_X12_161 : Cond.methodLink RX12 161 yX12_keeps ∈ TB_ := tbm 1359 (by decide +kernel) (by decide +kernel)
set_option maxRecDepth 100000 in
theorem cb_X12_isOfSize : CB_ yX12_isOfSize cX12_isOfSize 4 (some .boolean) 3 := ⟨tbm 1400 rfl rfl, tbm 13 (by decide +kernel) (by decide +kernel), by decide, by decide, by decide +kernel, by decide +kernel, by decide +kernel⟩
theorem im_X12_isOfSize : Cond.instanceMethod yX12_isOfSize ∈ TB_ := tbm 1399 (by decide +kernel) (by decide +kernel)
theorem se_X12_isOfSize : Cond.selects yX12_isOfSize.cls yX12_isOfSize yX12_isOfSize ∈ TB_ := tbs 53 (q := (yX12_isOfSize, 67)) (by decide +kernel)
theorem ml_X12_174 : Cond.methodLink RX12 174 yX12_isOfSize ∈ TB_ := tbm 1397 (by decide +kernel) (by decide +kernel)
set_option maxRecDepth 100000 in
theorem cb_X12_leastGrain : CB_ yX12_leastGrain cX12_leastGrain 8 (some .int) 4 := ⟨tbm 1404 rfl rfl, tbm 13 (by decide +kernel) (by decide +kernel), by decide, by decide, by decide +kernel, by decide +kernel, by decide +kernel⟩
theorem im_X12_leastGrain : Cond.instanceMethod yX12_leastGrain ∈ TB_ := tbm 1403 (by decide +kernel) (by decide +kernel)
theorem se_X12_leastGrain : Cond.selects yX12_leastGrain.cls yX12_leastGrain yX12_leastGrain ∈ TB_ := tbs 54 (q := (yX12_leastGrain, 67)) (by decide +kernel)
theorem ml_X12_178 : Cond.methodLink RX12 178 yX12_leastGrain ∈ TB_ := tbm 1401 (by decide +kernel) (by decide +kernel)
set_option maxRecDepth 100000 in
theorem cb_X12_isWhole : CB_ yX12_isWhole cX12_isWhole 9 (some .boolean) 5 := ⟨tbm 1408 rfl rfl, tbm 13 (by decide +kernel) (by decide +kernel), by decide, by decide, by decide +kernel, by decide +kernel, by decide +kernel⟩
theorem im_X12_isWhole : Cond.instanceMethod yX12_isWhole ∈ TB_ := tbm 1407 (by decide +kernel) (by decide +kernel)
theorem se_X12_isWhole : Cond.selects yX12_isWhole.cls yX12_isWhole yX12_isWhole ∈ TB_ := tbs 55 (q := (yX12_isWhole, 67)) (by decide +kernel)
theorem ml_X12_182 : Cond.methodLink RX12 182 yX12_isWhole ∈ TB_ := tbm 1405 (by decide +kernel) (by decide +kernel)
set_option maxRecDepth 100000 in
theorem cb_X12_isBlock : CB_ yX12_isBlock cX12_isBlock 5 (some .boolean) 4 := ⟨tbm 1388 rfl rfl, tbm 13 (by decide +kernel) (by decide +kernel), by decide, by decide, by decide +kernel, by decide +kernel, by decide +kernel⟩
theorem im_X12_isBlock : Cond.instanceMethod yX12_isBlock ∈ TB_ := tbm 1387 (by decide +kernel) (by decide +kernel)
theorem se_X12_isBlock : Cond.selects yX12_isBlock.cls yX12_isBlock yX12_isBlock ∈ TB_ := tbs 50 (q := (yX12_isBlock, 67)) (by decide +kernel)
theorem ml_X12_186 : Cond.methodLink RX12 186 yX12_isBlock ∈ TB_ := tbm 1385 (by decide +kernel) (by decide +kernel)
set_option maxRecDepth 100000 in
theorem cb_X12_isShape : CB_ yX12_isShape cX12_isShape 2 (some .boolean) 1 := ⟨tbm 1392 rfl rfl, tbm 13 (by decide +kernel) (by decide +kernel), by decide, by decide, by decide +kernel, by decide +kernel, by decide +kernel⟩
theorem im_X12_isShape : Cond.instanceMethod yX12_isShape ∈ TB_ := tbm 1391 (by decide +kernel) (by decide +kernel)
theorem se_X12_isShape : Cond.selects yX12_isShape.cls yX12_isShape yX12_isShape ∈ TB_ := tbs 51 (q := (yX12_isShape, 67)) (by decide +kernel)
theorem ml_X12_190 : Cond.methodLink RX12 190 yX12_isShape ∈ TB_ := tbm 1389 (by decide +kernel) (by decide +kernel)
set_option maxRecDepth 100000 in
theorem cb_X12_doesFit : CB_ yX12_doesFit cX12_doesFit 7 (some .boolean) 6 := ⟨tbm 1396 rfl rfl, tbm 13 (by decide +kernel) (by decide +kernel), by decide, by decide, by decide +kernel, by decide +kernel, by decide +kernel⟩
theorem im_X12_doesFit : Cond.instanceMethod yX12_doesFit ∈ TB_ := tbm 1395 (by decide +kernel) (by decide +kernel)
theorem se_X12_doesFit : Cond.selects yX12_doesFit.cls yX12_doesFit yX12_doesFit ∈ TB_ := tbs 52 (q := (yX12_doesFit, 67)) (by decide +kernel)
theorem ml_X12_194 : Cond.methodLink RX12 194 yX12_doesFit ∈ TB_ := tbm 1393 (by decide +kernel) (by decide +kernel)
set_option maxRecDepth 100000 in
theorem cb_X12_isOpen : CB_ yX12_isOpen cX12_isOpen 8 (some .boolean) 1 := ⟨tbm 1416 rfl rfl, tbm 13 (by decide +kernel) (by decide +kernel), by decide, by decide, by decide +kernel, by decide +kernel, by decide +kernel⟩
theorem im_X12_isOpen : Cond.instanceMethod yX12_isOpen ∈ TB_ := tbm 1415 (by decide +kernel) (by decide +kernel)
theorem se_X12_isOpen : Cond.selects yX12_isOpen.cls yX12_isOpen yX12_isOpen ∈ TB_ := tbs 56 (q := (yX12_isOpen, 67)) (by decide +kernel)
theorem ml_X12_198 : Cond.methodLink RX12 198 yX12_isOpen ∈ TB_ := tbm 1413 (by decide +kernel) (by decide +kernel)
set_option maxRecDepth 100000 in
theorem cb_X12_bringsOf : CB_ yX12_bringsOf cX12_bringsOf 9 (some .int) 6 := ⟨tbm 1428 rfl rfl, tbm 13 (by decide +kernel) (by decide +kernel), by decide, by decide, by decide +kernel, by decide +kernel, by decide +kernel⟩
theorem im_X12_bringsOf : Cond.instanceMethod yX12_bringsOf ∈ TB_ := tbm 1427 (by decide +kernel) (by decide +kernel)
theorem se_X12_bringsOf : Cond.selects yX12_bringsOf.cls yX12_bringsOf yX12_bringsOf ∈ TB_ := tbs 58 (q := (yX12_bringsOf, 67)) (by decide +kernel)
theorem ml_X12_201 : Cond.methodLink RX12 201 yX12_bringsOf ∈ TB_ := tbm 1425 (by decide +kernel) (by decide +kernel)
set_option maxRecDepth 100000 in
theorem cb_X12_fills : CB_ yX12_fills cX12_fills 9 none 1 := ⟨tbm 1424 rfl rfl, tbm 13 (by decide +kernel) (by decide +kernel), by decide, by decide, by decide +kernel, by decide +kernel, by decide +kernel⟩
theorem im_X12_fills : Cond.instanceMethod yX12_fills ∈ TB_ := tbm 1423 (by decide +kernel) (by decide +kernel)
theorem se_X12_fills : Cond.selects yX12_fills.cls yX12_fills yX12_fills ∈ TB_ := tbs 57 (q := (yX12_fills, 67)) (by decide +kernel)
theorem ml_X12_208 : Cond.methodLink RX12 208 yX12_fills ∈ TB_ := tbm 1421 (by decide +kernel) (by decide +kernel)
set_option maxRecDepth 100000 in
theorem cb_X12_deed : CB_ yX12_deed cX12_deed 8 (some .int) 5 := ⟨tbm 1439 rfl rfl, tbm 13 (by decide +kernel) (by decide +kernel), by decide, by decide, by decide +kernel, by decide +kernel, by decide +kernel⟩
theorem im_X12_deed : Cond.instanceMethod yX12_deed ∈ TB_ := tbm 1438 (by decide +kernel) (by decide +kernel)
theorem se_X12_deed : Cond.selects yX12_deed.cls yX12_deed yX12_deed ∈ TB_ := tbs 59 (q := (yX12_deed, 67)) (by decide +kernel)
theorem ml_X12_212 : Cond.methodLink RX12 212 yX12_deed ∈ TB_ := tbm 1436 (by decide +kernel) (by decide +kernel)
set_option maxRecDepth 100000 in
theorem cb_X12_mostOfAll : CB_ yX12_mostOfAll cX12_mostOfAll 2 (some .int) 1 := ⟨tbm 1448 rfl rfl, tbm 13 (by decide +kernel) (by decide +kernel), by decide, by decide, by decide +kernel, by decide +kernel, by decide +kernel⟩
theorem im_X12_mostOfAll : Cond.instanceMethod yX12_mostOfAll ∈ TB_ := tbm 1447 (by decide +kernel) (by decide +kernel)
theorem se_X12_mostOfAll : Cond.selects yX12_mostOfAll.cls yX12_mostOfAll yX12_mostOfAll ∈ TB_ := tbs 60 (q := (yX12_mostOfAll, 67)) (by decide +kernel)
theorem ml_X12_218 : Cond.methodLink RX12 218 yX12_mostOfAll ∈ TB_ := tbm 1445 (by decide +kernel) (by decide +kernel)
set_option maxRecDepth 100000 in
theorem cb_X12_doesFor : CB_ yX12_doesFor cX12_doesFor 4 (some .boolean) 2 := ⟨tbm 1479 rfl rfl, tbm 13 (by decide +kernel) (by decide +kernel), by decide, by decide, by decide +kernel, by decide +kernel, by decide +kernel⟩
theorem im_X12_doesFor : Cond.instanceMethod yX12_doesFor ∈ TB_ := tbm 1478 (by decide +kernel) (by decide +kernel)
theorem se_X12_doesFor : Cond.selects yX12_doesFor.cls yX12_doesFor yX12_doesFor ∈ TB_ := tbs 61 (q := (yX12_doesFor, 67)) (by decide +kernel)
theorem ml_X12_231 : Cond.methodLink RX12 231 yX12_doesFor ∈ TB_ := tbm 1476 (by decide +kernel) (by decide +kernel)
set_option maxRecDepth 100000 in
theorem cb_X12_findFilled : CB_ yX12_findFilled cX12_findFilled 6 (some .int) 0 := ⟨tbm 1497 rfl rfl, tbm 13 (by decide +kernel) (by decide +kernel), by decide, by decide, by decide +kernel, by decide +kernel, by decide +kernel⟩
theorem im_X12_findFilled : Cond.instanceMethod yX12_findFilled ∈ TB_ := tbm 1496 (by decide +kernel) (by decide +kernel)
theorem se_X12_findFilled : Cond.selects yX12_findFilled.cls yX12_findFilled yX12_findFilled ∈ TB_ := tbs 62 (q := (yX12_findFilled, 67)) (by decide +kernel)
theorem ml_X12_238 : Cond.methodLink RX12 238 yX12_findFilled ∈ TB_ := tbm 1494 (by decide +kernel) (by decide +kernel)
set_option maxRecDepth 100000 in
theorem cb_X12_soldAs : CB_ yX12_soldAs cX12_soldAs 3 (some .int) 1 := ⟨tbm 1528 rfl rfl, tbm 13 (by decide +kernel) (by decide +kernel), by decide, by decide, by decide +kernel, by decide +kernel, by decide +kernel⟩
theorem im_X12_soldAs : Cond.instanceMethod yX12_soldAs ∈ TB_ := tbm 1527 (by decide +kernel) (by decide +kernel)
theorem se_X12_soldAs : Cond.selects yX12_soldAs.cls yX12_soldAs yX12_soldAs ∈ TB_ := tbs 63 (q := (yX12_soldAs, 67)) (by decide +kernel)
theorem ml_X12_261 : Cond.methodLink RX12 261 yX12_soldAs ∈ TB_ := tbm 1525 (by decide +kernel) (by decide +kernel)
set_option maxRecDepth 100000 in
theorem cb_X12_wentOn : CB_ yX12_wentOn cX12_wentOn 5 (some .int) 2 := ⟨tbm 1532 rfl rfl, tbm 13 (by decide +kernel) (by decide +kernel), by decide, by decide, by decide +kernel, by decide +kernel, by decide +kernel⟩
theorem im_X12_wentOn : Cond.instanceMethod yX12_wentOn ∈ TB_ := tbm 1531 (by decide +kernel) (by decide +kernel)
theorem se_X12_wentOn : Cond.selects yX12_wentOn.cls yX12_wentOn yX12_wentOn ∈ TB_ := tbs 64 (q := (yX12_wentOn, 67)) (by decide +kernel)
theorem ml_X12_264 : Cond.methodLink RX12 264 yX12_wentOn ∈ TB_ := tbm 1529 (by decide +kernel) (by decide +kernel)
set_option maxRecDepth 100000 in
theorem cb_X12_look : CB_ yX12_look cX12_look 2 (some .int) 1 := ⟨tbm 1552 rfl rfl, tbm 13 (by decide +kernel) (by decide +kernel), by decide, by decide, by decide +kernel, by decide +kernel, by decide +kernel⟩
theorem im_X12_look : Cond.instanceMethod yX12_look ∈ TB_ := tbm 1551 (by decide +kernel) (by decide +kernel)
theorem se_X12_look : Cond.selects yX12_look.cls yX12_look yX12_look ∈ TB_ := tbs 66 (q := (yX12_look, 67)) (by decide +kernel)
theorem ml_X12_282 : Cond.methodLink RX12 282 yX12_look ∈ TB_ := tbm 1549 (by decide +kernel) (by decide +kernel)
set_option maxRecDepth 100000 in
theorem cb_X12_is : CB_ yX12_is cX12_is 8 (some .boolean) 6 := ⟨tbm 1562 rfl rfl, tbm 13 (by decide +kernel) (by decide +kernel), by decide, by decide, by decide +kernel, by decide +kernel, by decide +kernel⟩
theorem im_X12_is : Cond.instanceMethod yX12_is ∈ TB_ := tbm 1561 (by decide +kernel) (by decide +kernel)
theorem se_X12_is : Cond.selects yX12_is.cls yX12_is yX12_is ∈ TB_ := tbs 68 (q := (yX12_is, 67)) (by decide +kernel)
theorem ml_X12_285 : Cond.methodLink RX12 285 yX12_is ∈ TB_ := tbm 1559 (by decide +kernel) (by decide +kernel)
set_option maxRecDepth 100000 in
theorem cb_X12_wordNow : CB_ yX12_wordNow cX12_wordNow 1 (some .int) 0 := ⟨tbm 1558 rfl rfl, tbm 13 (by decide +kernel) (by decide +kernel), by decide, by decide, by decide +kernel, by decide +kernel, by decide +kernel⟩
theorem im_X12_wordNow : Cond.instanceMethod yX12_wordNow ∈ TB_ := tbm 1557 (by decide +kernel) (by decide +kernel)
theorem se_X12_wordNow : Cond.selects yX12_wordNow.cls yX12_wordNow yX12_wordNow ∈ TB_ := tbs 67 (q := (yX12_wordNow, 67)) (by decide +kernel)
theorem ml_X12_295 : Cond.methodLink RX12 295 yX12_wordNow ∈ TB_ := tbm 1555 (by decide +kernel) (by decide +kernel)
set_option maxRecDepth 100000 in
theorem cb_X12_wants : CB_ yX12_wants cX12_wants 3 none 2 := ⟨tbm 1566 rfl rfl, tbm 13 (by decide +kernel) (by decide +kernel), by decide, by decide, by decide +kernel, by decide +kernel, by decide +kernel⟩
theorem im_X12_wants : Cond.instanceMethod yX12_wants ∈ TB_ := tbm 1565 (by decide +kernel) (by decide +kernel)
theorem se_X12_wants : Cond.selects yX12_wants.cls yX12_wants yX12_wants ∈ TB_ := tbs 69 (q := (yX12_wants, 67)) (by decide +kernel)
theorem ml_X12_301 : Cond.methodLink RX12 301 yX12_wants ∈ TB_ := tbm 1563 (by decide +kernel) (by decide +kernel)
set_option maxRecDepth 100000 in
theorem cb_X12_next : CB_ yX12_next cX12_next 2 none 0 := ⟨tbm 1548 rfl rfl, tbm 13 (by decide +kernel) (by decide +kernel), by decide, by decide, by decide +kernel, by decide +kernel, by decide +kernel⟩
theorem im_X12_next : Cond.instanceMethod yX12_next ∈ TB_ := tbm 1547 (by decide +kernel) (by decide +kernel)
theorem se_X12_next : Cond.selects yX12_next.cls yX12_next yX12_next ∈ TB_ := tbs 65 (q := (yX12_next, 67)) (by decide +kernel)
theorem ml_X12_313 : Cond.methodLink RX12 313 yX12_next ∈ TB_ := tbm 1545 (by decide +kernel) (by decide +kernel)
set_option maxRecDepth 100000 in
theorem cb_X12_takes : CB_ yX12_takes cX12_takes 2 none 0 := ⟨tbm 1140 rfl rfl, tbm 13 (by decide +kernel) (by decide +kernel), by decide, by decide, by decide +kernel, by decide +kernel, by decide +kernel⟩
theorem im_X12_takes : Cond.instanceMethod yX12_takes ∈ TB_ := tbm 1139 (by decide +kernel) (by decide +kernel)
theorem se_X12_takes : Cond.selects yX12_takes.cls yX12_takes yX12_takes ∈ TB_ := tbs 47 (q := (yX12_takes, 67)) (by decide +kernel)
theorem ml_X12_322 : Cond.methodLink RX12 322 yX12_takes ∈ TB_ := tbm 1137 (by decide +kernel) (by decide +kernel)
set_option maxRecDepth 100000 in
theorem cb_X12_number : CB_ yX12_number cX12_number 3 (some .int) 2 := ⟨tbm 1582 rfl rfl, tbm 13 (by decide +kernel) (by decide +kernel), by decide, by decide, by decide +kernel, by decide +kernel, by decide +kernel⟩
theorem im_X12_number : Cond.instanceMethod yX12_number ∈ TB_ := tbm 1581 (by decide +kernel) (by decide +kernel)
theorem se_X12_number : Cond.selects yX12_number.cls yX12_number yX12_number ∈ TB_ := tbs 72 (q := (yX12_number, 67)) (by decide +kernel)
theorem ml_X12_331 : Cond.methodLink RX12 331 yX12_number ∈ TB_ := tbm 1579 (by decide +kernel) (by decide +kernel)
set_option maxRecDepth 100000 in
theorem cb_X12_goesOn : CB_ yX12_goesOn cX12_goesOn 1 none 0 := ⟨tbm 1578 rfl rfl, tbm 13 (by decide +kernel) (by decide +kernel), by decide, by decide, by decide +kernel, by decide +kernel, by decide +kernel⟩
theorem im_X12_goesOn : Cond.instanceMethod yX12_goesOn ∈ TB_ := tbm 1577 (by decide +kernel) (by decide +kernel)
theorem se_X12_goesOn : Cond.selects yX12_goesOn.cls yX12_goesOn yX12_goesOn ∈ TB_ := tbs 71 (q := (yX12_goesOn, 67)) (by decide +kernel)
theorem ml_X12_334 : Cond.methodLink RX12 334 yX12_goesOn ∈ TB_ := tbm 1575 (by decide +kernel) (by decide +kernel)
set_option maxRecDepth 100000 in
theorem cb_X12_letter : CB_ yX12_letter cX12_letter 1 (some .int) 0 := ⟨tbm 1598 rfl rfl, tbm 13 (by decide +kernel) (by decide +kernel), by decide, by decide, by decide +kernel, by decide +kernel, by decide +kernel⟩
theorem im_X12_letter : Cond.instanceMethod yX12_letter ∈ TB_ := tbm 1597 (by decide +kernel) (by decide +kernel)
theorem se_X12_letter : Cond.selects yX12_letter.cls yX12_letter yX12_letter ∈ TB_ := tbs 76 (q := (yX12_letter, 67)) (by decide +kernel)
theorem ml_X12_337 : Cond.methodLink RX12 337 yX12_letter ∈ TB_ := tbm 1595 (by decide +kernel) (by decide +kernel)
set_option maxRecDepth 100000 in
theorem cb_X12_readStamp : CB_ yX12_readStamp cX12_readStamp 4 none 0 := ⟨tbm 1586 rfl rfl, tbm 13 (by decide +kernel) (by decide +kernel), by decide, by decide, by decide +kernel, by decide +kernel, by decide +kernel⟩
theorem im_X12_readStamp : Cond.instanceMethod yX12_readStamp ∈ TB_ := tbm 1585 (by decide +kernel) (by decide +kernel)
theorem se_X12_readStamp : Cond.selects yX12_readStamp.cls yX12_readStamp yX12_readStamp ∈ TB_ := tbs 73 (q := (yX12_readStamp, 67)) (by decide +kernel)
theorem ml_X12_340 : Cond.methodLink RX12 340 yX12_readStamp ∈ TB_ := tbm 1583 (by decide +kernel) (by decide +kernel)
set_option maxRecDepth 100000 in
theorem cb_X12_readBar : CB_ yX12_readBar cX12_readBar 3 none 0 := ⟨tbm 1590 rfl rfl, tbm 13 (by decide +kernel) (by decide +kernel), by decide, by decide, by decide +kernel, by decide +kernel, by decide +kernel⟩
theorem im_X12_readBar : Cond.instanceMethod yX12_readBar ∈ TB_ := tbm 1589 (by decide +kernel) (by decide +kernel)
theorem se_X12_readBar : Cond.selects yX12_readBar.cls yX12_readBar yX12_readBar ∈ TB_ := tbs 74 (q := (yX12_readBar, 67)) (by decide +kernel)
theorem ml_X12_343 : Cond.methodLink RX12 343 yX12_readBar ∈ TB_ := tbm 1587 (by decide +kernel) (by decide +kernel)
set_option maxRecDepth 100000 in
theorem cb_X12_readLeast : CB_ yX12_readLeast cX12_readLeast 3 none 0 := ⟨tbm 1594 rfl rfl, tbm 13 (by decide +kernel) (by decide +kernel), by decide, by decide, by decide +kernel, by decide +kernel, by decide +kernel⟩
theorem im_X12_readLeast : Cond.instanceMethod yX12_readLeast ∈ TB_ := tbm 1593 (by decide +kernel) (by decide +kernel)
theorem se_X12_readLeast : Cond.selects yX12_readLeast.cls yX12_readLeast yX12_readLeast ∈ TB_ := tbs 75 (q := (yX12_readLeast, 67)) (by decide +kernel)
theorem ml_X12_346 : Cond.methodLink RX12 346 yX12_readLeast ∈ TB_ := tbm 1591 (by decide +kernel) (by decide +kernel)
set_option maxRecDepth 100000 in
theorem cb_X12_readSecond : CB_ yX12_readSecond cX12_readSecond 4 none 0 := ⟨tbm 1602 rfl rfl, tbm 13 (by decide +kernel) (by decide +kernel), by decide, by decide, by decide +kernel, by decide +kernel, by decide +kernel⟩
theorem im_X12_readSecond : Cond.instanceMethod yX12_readSecond ∈ TB_ := tbm 1601 (by decide +kernel) (by decide +kernel)
theorem se_X12_readSecond : Cond.selects yX12_readSecond.cls yX12_readSecond yX12_readSecond ∈ TB_ := tbs 77 (q := (yX12_readSecond, 67)) (by decide +kernel)
theorem ml_X12_349 : Cond.methodLink RX12 349 yX12_readSecond ∈ TB_ := tbm 1599 (by decide +kernel) (by decide +kernel)
set_option maxRecDepth 100000 in
theorem cb_X12_readLaw : CB_ yX12_readLaw cX12_readLaw 3 none 0 := ⟨tbm 1574 rfl rfl, tbm 13 (by decide +kernel) (by decide +kernel), by decide, by decide, by decide +kernel, by decide +kernel, by decide +kernel⟩
theorem im_X12_readLaw : Cond.instanceMethod yX12_readLaw ∈ TB_ := tbm 1573 (by decide +kernel) (by decide +kernel)
theorem se_X12_readLaw : Cond.selects yX12_readLaw.cls yX12_readLaw yX12_readLaw ∈ TB_ := tbs 70 (q := (yX12_readLaw, 67)) (by decide +kernel)
theorem ml_X12_352 : Cond.methodLink RX12 352 yX12_readLaw ∈ TB_ := tbm 1571 (by decide +kernel) (by decide +kernel)
set_option maxRecDepth 100000 in
theorem cb_X12_findYears : CB_ yX12_findYears cX12_findYears 4 none 1 := ⟨tbm 1623 rfl rfl, tbm 13 (by decide +kernel) (by decide +kernel), by decide, by decide, by decide +kernel, by decide +kernel, by decide +kernel⟩
theorem im_X12_findYears : Cond.instanceMethod yX12_findYears ∈ TB_ := tbm 1622 (by decide +kernel) (by decide +kernel)
theorem se_X12_findYears : Cond.selects yX12_findYears.cls yX12_findYears yX12_findYears ∈ TB_ := tbs 78 (q := (yX12_findYears, 67)) (by decide +kernel)
theorem ml_X12_363 : Cond.methodLink RX12 363 yX12_findYears ∈ TB_ := tbm 1620 (by decide +kernel) (by decide +kernel)
set_option maxRecDepth 100000 in
theorem cb_X12_findLot : CB_ yX12_findLot cX12_findLot 6 none 1 := ⟨tbm 1637 rfl rfl, tbm 13 (by decide +kernel) (by decide +kernel), by decide, by decide, by decide +kernel, by decide +kernel, by decide +kernel⟩
theorem im_X12_findLot : Cond.instanceMethod yX12_findLot ∈ TB_ := tbm 1636 (by decide +kernel) (by decide +kernel)
theorem se_X12_findLot : Cond.selects yX12_findLot.cls yX12_findLot yX12_findLot ∈ TB_ := tbs 79 (q := (yX12_findLot, 67)) (by decide +kernel)
theorem ml_X12_388 : Cond.methodLink RX12 388 yX12_findLot ∈ TB_ := tbm 1634 (by decide +kernel) (by decide +kernel)
set_option maxRecDepth 100000 in
theorem cb_X12_isOff : CB_ yX12_isOff cX12_isOff 1 (some .boolean) 0 := ⟨tbm 1641 rfl rfl, tbm 13 (by decide +kernel) (by decide +kernel), by decide, by decide, by decide +kernel, by decide +kernel, by decide +kernel⟩
theorem im_X12_isOff : Cond.instanceMethod yX12_isOff ∈ TB_ := tbm 1640 (by decide +kernel) (by decide +kernel)
theorem se_X12_isOff : Cond.selects yX12_isOff.cls yX12_isOff yX12_isOff ∈ TB_ := tbs 80 (q := (yX12_isOff, 67)) (by decide +kernel)
theorem ml_X12_391 : Cond.methodLink RX12 391 yX12_isOff ∈ TB_ := tbm 1638 (by decide +kernel) (by decide +kernel)
set_option maxRecDepth 100000 in
theorem cb_X12_crackMany : CB_ yX12_crackMany cX12_crackMany 3 (some .int) 0 := ⟨tbm 1667 rfl rfl, tbm 13 (by decide +kernel) (by decide +kernel), by decide, by decide, by decide +kernel, by decide +kernel, by decide +kernel⟩
theorem im_X12_crackMany : Cond.instanceMethod yX12_crackMany ∈ TB_ := tbm 1666 (by decide +kernel) (by decide +kernel)
theorem se_X12_crackMany : Cond.selects yX12_crackMany.cls yX12_crackMany yX12_crackMany ∈ TB_ := tbs 81 (q := (yX12_crackMany, 67)) (by decide +kernel)
theorem ml_X12_398 : Cond.methodLink RX12 398 yX12_crackMany ∈ TB_ := tbm 1664 (by decide +kernel) (by decide +kernel)
theorem im_J0_coder_7d493 : Cond.instanceMethod yJ0_coder_7d493 ∈ TB_ := tbm 860 (by decide +kernel) (by decide +kernel)
theorem se_J0_coder_7d493 : Cond.selects yJ0_coder_7d493.cls yJ0_coder_7d493 yJ0_coder_7d493 ∈ TB_ := tbm 861 (by decide +kernel) (by decide +kernel)
theorem ml_J0_335 : Cond.methodLink RJ0 335 yJ0_coder_7d493 ∈ TB_ := tbm 859 (by decide +kernel) (by decide +kernel)
theorem im_J0_isLatin1_aae02 : Cond.instanceMethod yJ0_isLatin1_aae02 ∈ TB_ := tbm 870 (by decide +kernel) (by decide +kernel)
theorem se_J0_isLatin1_aae02 : Cond.selects yJ0_isLatin1_aae02.cls yJ0_isLatin1_aae02 yJ0_isLatin1_aae02 ∈ TB_ := tbm 871 (by decide +kernel) (by decide +kernel)
theorem ml_J0_492 : Cond.methodLink RJ0 492 yJ0_isLatin1_aae02 ∈ TB_ := tbm 869 (by decide +kernel) (by decide +kernel)
set_option maxRecDepth 100000 in
theorem cb_X11_burl : CB_ yX11_burl cX11_burl 3 (some .int) 2 := ⟨tbm 456 rfl rfl, tbm 1 (by decide +kernel) (by decide +kernel), by decide, by decide, by decide +kernel, by decide +kernel, by decide +kernel⟩
theorem im_X11_burl : Cond.instanceMethod yX11_burl ∈ TB_ := tbm 454 (by decide +kernel) (by decide +kernel)
theorem se_X11_burl : Cond.selects yX11_burl.cls yX11_burl yX11_burl ∈ TB_ := tbm 455 (by decide +kernel) (by decide +kernel)
set_option maxRecDepth 100000 in
theorem cb_X11_crack : CB_ yX11_crack cX11_crack 5 (some .int) 3 := ⟨tbm 467 rfl rfl, tbm 1 (by decide +kernel) (by decide +kernel), by decide, by decide, by decide +kernel, by decide +kernel, by decide +kernel⟩
theorem im_X11_crack : Cond.instanceMethod yX11_crack ∈ TB_ := tbm 465 (by decide +kernel) (by decide +kernel)
theorem se_X11_crack : Cond.selects yX11_crack.cls yX11_crack yX11_crack ∈ TB_ := tbm 466 (by decide +kernel) (by decide +kernel)
set_option maxRecDepth 100000 in
theorem cb_X11_grain : CB_ yX11_grain cX11_grain 6 (some .int) 3 := ⟨tbm 500 rfl rfl, tbm 1 (by decide +kernel) (by decide +kernel), by decide, by decide, by decide +kernel, by decide +kernel, by decide +kernel⟩
theorem im_X11_grain : Cond.instanceMethod yX11_grain ∈ TB_ := tbm 498 (by decide +kernel) (by decide +kernel)
theorem se_X11_grain : Cond.selects yX11_grain.cls yX11_grain yX11_grain ∈ TB_ := tbm 499 (by decide +kernel) (by decide +kernel)
set_option maxRecDepth 100000 in
theorem cb_X11_shape : CB_ yX11_shape cX11_shape 6 (some .int) 5 := ⟨tbm 504 rfl rfl, tbm 1 (by decide +kernel) (by decide +kernel), by decide, by decide, by decide +kernel, by decide +kernel, by decide +kernel⟩
theorem im_X11_shape : Cond.instanceMethod yX11_shape ∈ TB_ := tbm 502 (by decide +kernel) (by decide +kernel)
theorem se_X11_shape : Cond.selects yX11_shape.cls yX11_shape yX11_shape ∈ TB_ := tbm 503 (by decide +kernel) (by decide +kernel)
set_option maxRecDepth 100000 in
theorem cb_X11_drop : CB_ yX11_drop cX11_drop 1 (some .int) 0 := ⟨tbm 512 rfl rfl, tbm 1 (by decide +kernel) (by decide +kernel), by decide, by decide, by decide +kernel, by decide +kernel, by decide +kernel⟩
theorem im_X11_drop : Cond.instanceMethod yX11_drop ∈ TB_ := tbm 510 (by decide +kernel) (by decide +kernel)
theorem se_X11_drop : Cond.selects yX11_drop.cls yX11_drop yX11_drop ∈ TB_ := tbm 511 (by decide +kernel) (by decide +kernel)
set_option maxRecDepth 100000 in
theorem cb_X11_fits : CB_ yX11_fits cX11_fits 6 (some .int) 5 := ⟨tbm 520 rfl rfl, tbm 1 (by decide +kernel) (by decide +kernel), by decide, by decide, by decide +kernel, by decide +kernel, by decide +kernel⟩
theorem im_X11_fits : Cond.instanceMethod yX11_fits ∈ TB_ := tbm 518 (by decide +kernel) (by decide +kernel)
theorem se_X11_fits : Cond.selects yX11_fits.cls yX11_fits yX11_fits ∈ TB_ := tbm 519 (by decide +kernel) (by decide +kernel)
set_option maxRecDepth 100000 in
theorem cb_X11_open : CB_ yX11_open cX11_open 3 (some .int) 0 := ⟨tbm 544 rfl rfl, tbm 1 (by decide +kernel) (by decide +kernel), by decide, by decide, by decide +kernel, by decide +kernel, by decide +kernel⟩
theorem im_X11_open : Cond.instanceMethod yX11_open ∈ TB_ := tbm 542 (by decide +kernel) (by decide +kernel)
theorem se_X11_open : Cond.selects yX11_open.cls yX11_open yX11_open ∈ TB_ := tbm 543 (by decide +kernel) (by decide +kernel)
set_option maxRecDepth 100000 in
theorem cb_X11_most : CB_ yX11_most cX11_most 5 (some .int) 4 := ⟨tbm 557 rfl rfl, tbm 1 (by decide +kernel) (by decide +kernel), by decide, by decide, by decide +kernel, by decide +kernel, by decide +kernel⟩
theorem im_X11_most : Cond.instanceMethod yX11_most ∈ TB_ := tbm 555 (by decide +kernel) (by decide +kernel)
theorem se_X11_most : Cond.selects yX11_most.cls yX11_most yX11_most ∈ TB_ := tbm 556 (by decide +kernel) (by decide +kernel)
set_option maxRecDepth 100000 in
theorem cb_X11_cut : CB_ yX11_cut cX11_cut 5 (some .int) 4 := ⟨tbm 615 rfl rfl, tbm 1 (by decide +kernel) (by decide +kernel), by decide, by decide, by decide +kernel, by decide +kernel, by decide +kernel⟩
theorem im_X11_cut : Cond.instanceMethod yX11_cut ∈ TB_ := tbm 613 (by decide +kernel) (by decide +kernel)
theorem se_X11_cut : Cond.selects yX11_cut.cls yX11_cut yX11_cut ∈ TB_ := tbm 614 (by decide +kernel) (by decide +kernel)
set_option maxRecDepth 100000 in
theorem cb_X11_sawn : CB_ yX11_sawn cX11_sawn 4 (some .int) 1 := ⟨tbm 627 rfl rfl, tbm 1 (by decide +kernel) (by decide +kernel), by decide, by decide, by decide +kernel, by decide +kernel, by decide +kernel⟩
theorem im_X11_sawn : Cond.instanceMethod yX11_sawn ∈ TB_ := tbm 625 (by decide +kernel) (by decide +kernel)
theorem se_X11_sawn : Cond.selects yX11_sawn.cls yX11_sawn yX11_sawn ∈ TB_ := tbm 626 (by decide +kernel) (by decide +kernel)
set_option maxRecDepth 100000 in
theorem cb_X11_costs : CB_ yX11_costs cX11_costs 3 (some .int) 2 := ⟨tbm 644 rfl rfl, tbm 1 (by decide +kernel) (by decide +kernel), by decide, by decide, by decide +kernel, by decide +kernel, by decide +kernel⟩
theorem im_X11_costs : Cond.instanceMethod yX11_costs ∈ TB_ := tbm 642 (by decide +kernel) (by decide +kernel)
theorem se_X11_costs : Cond.selects yX11_costs.cls yX11_costs yX11_costs ∈ TB_ := tbm 643 (by decide +kernel) (by decide +kernel)
set_option maxRecDepth 100000 in
theorem cb_X11_undo : CB_ yX11_undo cX11_undo 1 (some .int) 0 := ⟨tbm 648 rfl rfl, tbm 1 (by decide +kernel) (by decide +kernel), by decide, by decide, by decide +kernel, by decide +kernel, by decide +kernel⟩
theorem im_X11_undo : Cond.instanceMethod yX11_undo ∈ TB_ := tbm 646 (by decide +kernel) (by decide +kernel)
theorem se_X11_undo : Cond.selects yX11_undo.cls yX11_undo yX11_undo ∈ TB_ := tbm 647 (by decide +kernel) (by decide +kernel)
set_option maxRecDepth 100000 in
theorem cb_X11_world : CB_ yX11_world cX11_world 1 (some .int) 0 := ⟨tbm 656 rfl rfl, tbm 1 (by decide +kernel) (by decide +kernel), by decide, by decide, by decide +kernel, by decide +kernel, by decide +kernel⟩
theorem im_X11_world : Cond.instanceMethod yX11_world ∈ TB_ := tbm 654 (by decide +kernel) (by decide +kernel)
theorem se_X11_world : Cond.selects yX11_world.cls yX11_world yX11_world ∈ TB_ := tbm 655 (by decide +kernel) (by decide +kernel)
set_option maxRecDepth 100000 in
theorem cb_X11_doubt : CB_ yX11_doubt cX11_doubt 6 (some .int) 4 := ⟨tbm 660 rfl rfl, tbm 1 (by decide +kernel) (by decide +kernel), by decide, by decide, by decide +kernel, by decide +kernel, by decide +kernel⟩
theorem im_X11_doubt : Cond.instanceMethod yX11_doubt ∈ TB_ := tbm 658 (by decide +kernel) (by decide +kernel)
theorem se_X11_doubt : Cond.selects yX11_doubt.cls yX11_doubt yX11_doubt ∈ TB_ := tbm 659 (by decide +kernel) (by decide +kernel)
set_option maxRecDepth 100000 in
theorem cb_X11_choose : CB_ yX11_choose cX11_choose 2 (some .int) 1 := ⟨tbm 664 rfl rfl, tbm 1 (by decide +kernel) (by decide +kernel), by decide, by decide, by decide +kernel, by decide +kernel, by decide +kernel⟩
theorem im_X11_choose : Cond.instanceMethod yX11_choose ∈ TB_ := tbm 662 (by decide +kernel) (by decide +kernel)
theorem se_X11_choose : Cond.selects yX11_choose.cls yX11_choose yX11_choose ∈ TB_ := tbm 663 (by decide +kernel) (by decide +kernel)
set_option maxRecDepth 100000 in
theorem cb_X11_store : CB_ yX11_store cX11_store 5 (some .int) 4 := ⟨tbm 698 rfl rfl, tbm 1 (by decide +kernel) (by decide +kernel), by decide, by decide, by decide +kernel, by decide +kernel, by decide +kernel⟩
theorem im_X11_store : Cond.instanceMethod yX11_store ∈ TB_ := tbm 696 (by decide +kernel) (by decide +kernel)
theorem se_X11_store : Cond.selects yX11_store.cls yX11_store yX11_store ∈ TB_ := tbm 697 (by decide +kernel) (by decide +kernel)
set_option maxRecDepth 100000 in
theorem cb_X11_stored : CB_ yX11_stored cX11_stored 3 (some .int) 2 := ⟨tbm 706 rfl rfl, tbm 1 (by decide +kernel) (by decide +kernel), by decide, by decide, by decide +kernel, by decide +kernel, by decide +kernel⟩
theorem im_X11_stored : Cond.instanceMethod yX11_stored ∈ TB_ := tbm 704 (by decide +kernel) (by decide +kernel)
theorem se_X11_stored : Cond.selects yX11_stored.cls yX11_stored yX11_stored ∈ TB_ := tbm 705 (by decide +kernel) (by decide +kernel)
set_option maxRecDepth 100000 in
theorem cb_X11_age : CB_ yX11_age cX11_age 2 (some .int) 0 := ⟨tbm 719 rfl rfl, tbm 1 (by decide +kernel) (by decide +kernel), by decide, by decide, by decide +kernel, by decide +kernel, by decide +kernel⟩
theorem im_X11_age : Cond.instanceMethod yX11_age ∈ TB_ := tbm 717 (by decide +kernel) (by decide +kernel)
theorem se_X11_age : Cond.selects yX11_age.cls yX11_age yX11_age ∈ TB_ := tbm 718 (by decide +kernel) (by decide +kernel)
set_option maxRecDepth 100000 in
theorem cb_X11_order : CB_ yX11_order cX11_order 4 (some .int) 3 := ⟨tbm 723 rfl rfl, tbm 1 (by decide +kernel) (by decide +kernel), by decide, by decide, by decide +kernel, by decide +kernel, by decide +kernel⟩
theorem im_X11_order : Cond.instanceMethod yX11_order ∈ TB_ := tbm 721 (by decide +kernel) (by decide +kernel)
theorem se_X11_order : Cond.selects yX11_order.cls yX11_order yX11_order ∈ TB_ := tbm 722 (by decide +kernel) (by decide +kernel)
set_option maxRecDepth 100000 in
theorem cb_X11_filled : CB_ yX11_filled cX11_filled 4 (some .int) 1 := ⟨tbm 731 rfl rfl, tbm 1 (by decide +kernel) (by decide +kernel), by decide, by decide, by decide +kernel, by decide +kernel, by decide +kernel⟩
theorem im_X11_filled : Cond.instanceMethod yX11_filled ∈ TB_ := tbm 729 (by decide +kernel) (by decide +kernel)
theorem se_X11_filled : Cond.selects yX11_filled.cls yX11_filled yX11_filled ∈ TB_ := tbm 730 (by decide +kernel) (by decide +kernel)
set_option maxRecDepth 100000 in
theorem cb_X11_deliver : CB_ yX11_deliver cX11_deliver 2 (some .int) 0 := ⟨tbm 764 rfl rfl, tbm 1 (by decide +kernel) (by decide +kernel), by decide, by decide, by decide +kernel, by decide +kernel, by decide +kernel⟩
theorem im_X11_deliver : Cond.instanceMethod yX11_deliver ∈ TB_ := tbm 762 (by decide +kernel) (by decide +kernel)
theorem se_X11_deliver : Cond.selects yX11_deliver.cls yX11_deliver yX11_deliver ∈ TB_ := tbm 763 (by decide +kernel) (by decide +kernel)
set_option maxRecDepth 100000 in
theorem cb_X11_gains : CB_ yX11_gains cX11_gains 6 (some .int) 2 := ⟨tbm 778 rfl rfl, tbm 1 (by decide +kernel) (by decide +kernel), by decide, by decide, by decide +kernel, by decide +kernel, by decide +kernel⟩
theorem im_X11_gains : Cond.instanceMethod yX11_gains ∈ TB_ := tbm 776 (by decide +kernel) (by decide +kernel)
theorem se_X11_gains : Cond.selects yX11_gains.cls yX11_gains yX11_gains ∈ TB_ := tbm 777 (by decide +kernel) (by decide +kernel)
set_option maxRecDepth 100000 in
theorem cb_X11_pipe : CB_ yX11_pipe cX11_pipe 9 (some .int) 7 := ⟨tbm 783 rfl rfl, tbm 1 (by decide +kernel) (by decide +kernel), by decide, by decide, by decide +kernel, by decide +kernel, by decide +kernel⟩
theorem im_X11_pipe : Cond.instanceMethod yX11_pipe ∈ TB_ := tbm 781 (by decide +kernel) (by decide +kernel)
theorem se_X11_pipe : Cond.selects yX11_pipe.cls yX11_pipe yX11_pipe ∈ TB_ := tbm 782 (by decide +kernel) (by decide +kernel)
set_option maxRecDepth 100000 in
theorem cb_X11_told : CB_ yX11_told cX11_told 3 (some .int) 2 := ⟨tbm 797 rfl rfl, tbm 1 (by decide +kernel) (by decide +kernel), by decide, by decide, by decide +kernel, by decide +kernel, by decide +kernel⟩
theorem im_X11_told : Cond.instanceMethod yX11_told ∈ TB_ := tbm 795 (by decide +kernel) (by decide +kernel)
theorem se_X11_told : Cond.selects yX11_told.cls yX11_told yX11_told ∈ TB_ := tbm 796 (by decide +kernel) (by decide +kernel)
set_option maxRecDepth 100000 in
theorem cb_X11_feed : CB_ yX11_feed cX11_feed 3 (some .int) 1 := ⟨tbm 814 rfl rfl, tbm 1 (by decide +kernel) (by decide +kernel), by decide, by decide, by decide +kernel, by decide +kernel, by decide +kernel⟩
theorem im_X11_feed : Cond.instanceMethod yX11_feed ∈ TB_ := tbm 812 (by decide +kernel) (by decide +kernel)
theorem se_X11_feed : Cond.selects yX11_feed.cls yX11_feed yX11_feed ∈ TB_ := tbm 813 (by decide +kernel) (by decide +kernel)
set_option maxRecDepth 100000 in
theorem cb_X11_end : CB_ yX11_end cX11_end 3 (some .int) 1 := ⟨tbm 823 rfl rfl, tbm 1 (by decide +kernel) (by decide +kernel), by decide, by decide, by decide +kernel, by decide +kernel, by decide +kernel⟩
theorem im_X11_end : Cond.instanceMethod yX11_end ∈ TB_ := tbm 821 (by decide +kernel) (by decide +kernel)
theorem se_X11_end : Cond.selects yX11_end.cls yX11_end yX11_end ∈ TB_ := tbm 822 (by decide +kernel) (by decide +kernel)
set_option maxRecDepth 100000 in
theorem cb_X11_laws : CB_ yX11_laws cX11_laws 2 (some .int) 0 := ⟨tbm 827 rfl rfl, tbm 1 (by decide +kernel) (by decide +kernel), by decide, by decide, by decide +kernel, by decide +kernel, by decide +kernel⟩
theorem im_X11_laws : Cond.instanceMethod yX11_laws ∈ TB_ := tbm 825 (by decide +kernel) (by decide +kernel)
theorem se_X11_laws : Cond.selects yX11_laws.cls yX11_laws yX11_laws ∈ TB_ := tbm 826 (by decide +kernel) (by decide +kernel)
set_option maxRecDepth 100000 in
theorem cb_X11_fault : CB_ yX11_fault cX11_fault 1 (some .int) 0 := ⟨tbm 992 rfl rfl, tbm 1 (by decide +kernel) (by decide +kernel), by decide, by decide, by decide +kernel, by decide +kernel, by decide +kernel⟩
theorem im_X11_fault : Cond.instanceMethod yX11_fault ∈ TB_ := tbm 990 (by decide +kernel) (by decide +kernel)
theorem se_X11_fault : Cond.selects yX11_fault.cls yX11_fault yX11_fault ∈ TB_ := tbm 991 (by decide +kernel) (by decide +kernel)
set_option maxRecDepth 100000 in
theorem cb_X11_stamp : CB_ yX11_stamp cX11_stamp 3 (some .int) 2 := ⟨tbm 996 rfl rfl, tbm 1 (by decide +kernel) (by decide +kernel), by decide, by decide, by decide +kernel, by decide +kernel, by decide +kernel⟩
theorem im_X11_stamp : Cond.instanceMethod yX11_stamp ∈ TB_ := tbm 994 (by decide +kernel) (by decide +kernel)
theorem se_X11_stamp : Cond.selects yX11_stamp.cls yX11_stamp yX11_stamp ∈ TB_ := tbm 995 (by decide +kernel) (by decide +kernel)
set_option maxRecDepth 100000 in
theorem cb_X11_name : CB_ yX11_name cX11_name 3 (some .int) 2 := ⟨tbm 1000 rfl rfl, tbm 1 (by decide +kernel) (by decide +kernel), by decide, by decide, by decide +kernel, by decide +kernel, by decide +kernel⟩
theorem im_X11_name : Cond.instanceMethod yX11_name ∈ TB_ := tbm 998 (by decide +kernel) (by decide +kernel)
theorem se_X11_name : Cond.selects yX11_name.cls yX11_name yX11_name ∈ TB_ := tbm 999 (by decide +kernel) (by decide +kernel)
set_option maxRecDepth 100000 in
theorem cb_X11_years : CB_ yX11_years cX11_years 5 (some .int) 2 := ⟨tbm 1004 rfl rfl, tbm 1 (by decide +kernel) (by decide +kernel), by decide, by decide, by decide +kernel, by decide +kernel, by decide +kernel⟩
theorem im_X11_years : Cond.instanceMethod yX11_years ∈ TB_ := tbm 1002 (by decide +kernel) (by decide +kernel)
theorem se_X11_years : Cond.selects yX11_years.cls yX11_years yX11_years ∈ TB_ := tbm 1003 (by decide +kernel) (by decide +kernel)
set_option maxRecDepth 100000 in
theorem cb_X11_dated : CB_ yX11_dated cX11_dated 4 (some .int) 1 := ⟨tbm 1028 rfl rfl, tbm 1 (by decide +kernel) (by decide +kernel), by decide, by decide, by decide +kernel, by decide +kernel, by decide +kernel⟩
theorem im_X11_dated : Cond.instanceMethod yX11_dated ∈ TB_ := tbm 1026 (by decide +kernel) (by decide +kernel)
theorem se_X11_dated : Cond.selects yX11_dated.cls yX11_dated yX11_dated ∈ TB_ := tbm 1027 (by decide +kernel) (by decide +kernel)
set_option maxRecDepth 100000 in
theorem cb_X11_lot : CB_ yX11_lot cX11_lot 3 (some .int) 2 := ⟨tbm 1037 rfl rfl, tbm 1 (by decide +kernel) (by decide +kernel), by decide, by decide, by decide +kernel, by decide +kernel, by decide +kernel⟩
theorem im_X11_lot : Cond.instanceMethod yX11_lot ∈ TB_ := tbm 1035 (by decide +kernel) (by decide +kernel)
theorem se_X11_lot : Cond.selects yX11_lot.cls yX11_lot yX11_lot ∈ TB_ := tbm 1036 (by decide +kernel) (by decide +kernel)
set_option maxRecDepth 100000 in
theorem cb_X11_worst : CB_ yX11_worst cX11_worst 3 (some .int) 0 := ⟨tbm 1066 rfl rfl, tbm 1 (by decide +kernel) (by decide +kernel), by decide, by decide, by decide +kernel, by decide +kernel, by decide +kernel⟩
theorem im_X11_worst : Cond.instanceMethod yX11_worst ∈ TB_ := tbm 1064 (by decide +kernel) (by decide +kernel)
theorem se_X11_worst : Cond.selects yX11_worst.cls yX11_worst yX11_worst ∈ TB_ := tbm 1065 (by decide +kernel) (by decide +kernel)
set_option maxRecDepth 100000 in
theorem cb_X11_sheet : CB_ yX11_sheet cX11_sheet 4 (some .int) 3 := ⟨tbm 1074 rfl rfl, tbm 1 (by decide +kernel) (by decide +kernel), by decide, by decide, by decide +kernel, by decide +kernel, by decide +kernel⟩
theorem im_X11_sheet : Cond.instanceMethod yX11_sheet ∈ TB_ := tbm 1072 (by decide +kernel) (by decide +kernel)
theorem se_X11_sheet : Cond.selects yX11_sheet.cls yX11_sheet yX11_sheet ∈ TB_ := tbm 1073 (by decide +kernel) (by decide +kernel)
set_option maxRecDepth 100000 in
theorem cb_X11_lay : CB_ yX11_lay cX11_lay 5 (some .int) 3 := ⟨tbm 1082 rfl rfl, tbm 1 (by decide +kernel) (by decide +kernel), by decide, by decide, by decide +kernel, by decide +kernel, by decide +kernel⟩
theorem im_X11_lay : Cond.instanceMethod yX11_lay ∈ TB_ := tbm 1080 (by decide +kernel) (by decide +kernel)
theorem se_X11_lay : Cond.selects yX11_lay.cls yX11_lay yX11_lay ∈ TB_ := tbm 1081 (by decide +kernel) (by decide +kernel)
set_option maxRecDepth 100000 in
theorem cb_X11_draw : CB_ yX11_draw cX11_draw 6 (some .int) 3 := ⟨tbm 1099 rfl rfl, tbm 1 (by decide +kernel) (by decide +kernel), by decide, by decide, by decide +kernel, by decide +kernel, by decide +kernel⟩
theorem im_X11_draw : Cond.instanceMethod yX11_draw ∈ TB_ := tbm 1097 (by decide +kernel) (by decide +kernel)
theorem se_X11_draw : Cond.selects yX11_draw.cls yX11_draw yX11_draw ∈ TB_ := tbm 1098 (by decide +kernel) (by decide +kernel)
set_option maxRecDepth 100000 in
theorem cb_X11_count : CB_ yX11_count cX11_count 2 (some .int) 1 := ⟨tbm 1117 rfl rfl, tbm 1 (by decide +kernel) (by decide +kernel), by decide, by decide, by decide +kernel, by decide +kernel, by decide +kernel⟩
theorem im_X11_count : Cond.instanceMethod yX11_count ∈ TB_ := tbm 1115 (by decide +kernel) (by decide +kernel)
theorem se_X11_count : Cond.selects yX11_count.cls yX11_count yX11_count ∈ TB_ := tbm 1116 (by decide +kernel) (by decide +kernel)
set_option maxRecDepth 100000 in
theorem cb_X12_burl : CB_ yX12_burl cX12_burl 4 (some .int) 2 := ⟨tbm 1346 rfl rfl, tbm 13 (by decide +kernel) (by decide +kernel), by decide, by decide, by decide +kernel, by decide +kernel, by decide +kernel⟩
theorem im_X12_burl : Cond.instanceMethod yX12_burl ∈ TB_ := tbm 1344 (by decide +kernel) (by decide +kernel)
theorem se_X12_burl : Cond.selects yX12_burl.cls yX12_burl yX12_burl ∈ TB_ := tbm 1345 (by decide +kernel) (by decide +kernel)
set_option maxRecDepth 100000 in
theorem cb_X12_crack : CB_ yX12_crack cX12_crack 5 (some .int) 3 := ⟨tbm 1354 rfl rfl, tbm 13 (by decide +kernel) (by decide +kernel), by decide, by decide, by decide +kernel, by decide +kernel, by decide +kernel⟩
theorem im_X12_crack : Cond.instanceMethod yX12_crack ∈ TB_ := tbm 1352 (by decide +kernel) (by decide +kernel)
theorem se_X12_crack : Cond.selects yX12_crack.cls yX12_crack yX12_crack ∈ TB_ := tbm 1353 (by decide +kernel) (by decide +kernel)
set_option maxRecDepth 100000 in
theorem cb_X12_grain : CB_ yX12_grain cX12_grain 5 (some .int) 3 := ⟨tbm 1366 rfl rfl, tbm 13 (by decide +kernel) (by decide +kernel), by decide, by decide, by decide +kernel, by decide +kernel, by decide +kernel⟩
theorem im_X12_grain : Cond.instanceMethod yX12_grain ∈ TB_ := tbm 1364 (by decide +kernel) (by decide +kernel)
theorem se_X12_grain : Cond.selects yX12_grain.cls yX12_grain yX12_grain ∈ TB_ := tbm 1365 (by decide +kernel) (by decide +kernel)
set_option maxRecDepth 100000 in
theorem cb_X12_undo : CB_ yX12_undo cX12_undo 2 (some .int) 0 := ⟨tbm 1371 rfl rfl, tbm 13 (by decide +kernel) (by decide +kernel), by decide, by decide, by decide +kernel, by decide +kernel, by decide +kernel⟩
theorem im_X12_undo : Cond.instanceMethod yX12_undo ∈ TB_ := tbm 1369 (by decide +kernel) (by decide +kernel)
theorem se_X12_undo : Cond.selects yX12_undo.cls yX12_undo yX12_undo ∈ TB_ := tbm 1370 (by decide +kernel) (by decide +kernel)
set_option maxRecDepth 100000 in
theorem cb_X12_shape : CB_ yX12_shape cX12_shape 6 (some .int) 5 := ⟨tbm 1375 rfl rfl, tbm 13 (by decide +kernel) (by decide +kernel), by decide, by decide, by decide +kernel, by decide +kernel, by decide +kernel⟩
theorem im_X12_shape : Cond.instanceMethod yX12_shape ∈ TB_ := tbm 1373 (by decide +kernel) (by decide +kernel)
theorem se_X12_shape : Cond.selects yX12_shape.cls yX12_shape yX12_shape ∈ TB_ := tbm 1374 (by decide +kernel) (by decide +kernel)
set_option maxRecDepth 100000 in
theorem cb_X12_drop : CB_ yX12_drop cX12_drop 2 (some .int) 0 := ⟨tbm 1380 rfl rfl, tbm 13 (by decide +kernel) (by decide +kernel), by decide, by decide, by decide +kernel, by decide +kernel, by decide +kernel⟩
theorem im_X12_drop : Cond.instanceMethod yX12_drop ∈ TB_ := tbm 1378 (by decide +kernel) (by decide +kernel)
theorem se_X12_drop : Cond.selects yX12_drop.cls yX12_drop yX12_drop ∈ TB_ := tbm 1379 (by decide +kernel) (by decide +kernel)
set_option maxRecDepth 100000 in
theorem cb_X12_fits : CB_ yX12_fits cX12_fits 6 (some .int) 5 := ⟨tbm 1384 rfl rfl, tbm 13 (by decide +kernel) (by decide +kernel), by decide, by decide, by decide +kernel, by decide +kernel, by decide +kernel⟩
theorem im_X12_fits : Cond.instanceMethod yX12_fits ∈ TB_ := tbm 1382 (by decide +kernel) (by decide +kernel)
theorem se_X12_fits : Cond.selects yX12_fits.cls yX12_fits yX12_fits ∈ TB_ := tbm 1383 (by decide +kernel) (by decide +kernel)
set_option maxRecDepth 100000 in
theorem cb_X12_open : CB_ yX12_open cX12_open 3 (some .int) 0 := ⟨tbm 1412 rfl rfl, tbm 13 (by decide +kernel) (by decide +kernel), by decide, by decide, by decide +kernel, by decide +kernel, by decide +kernel⟩
theorem im_X12_open : Cond.instanceMethod yX12_open ∈ TB_ := tbm 1410 (by decide +kernel) (by decide +kernel)
theorem se_X12_open : Cond.selects yX12_open.cls yX12_open yX12_open ∈ TB_ := tbm 1411 (by decide +kernel) (by decide +kernel)
set_option maxRecDepth 100000 in
theorem cb_X12_most : CB_ yX12_most cX12_most 5 (some .int) 4 := ⟨tbm 1420 rfl rfl, tbm 13 (by decide +kernel) (by decide +kernel), by decide, by decide, by decide +kernel, by decide +kernel, by decide +kernel⟩
theorem im_X12_most : Cond.instanceMethod yX12_most ∈ TB_ := tbm 1418 (by decide +kernel) (by decide +kernel)
theorem se_X12_most : Cond.selects yX12_most.cls yX12_most yX12_most ∈ TB_ := tbm 1419 (by decide +kernel) (by decide +kernel)
set_option maxRecDepth 100000 in
theorem cb_X12_cut : CB_ yX12_cut cX12_cut 5 (some .int) 4 := ⟨tbm 1435 rfl rfl, tbm 13 (by decide +kernel) (by decide +kernel), by decide, by decide, by decide +kernel, by decide +kernel, by decide +kernel⟩
theorem im_X12_cut : Cond.instanceMethod yX12_cut ∈ TB_ := tbm 1433 (by decide +kernel) (by decide +kernel)
theorem se_X12_cut : Cond.selects yX12_cut.cls yX12_cut yX12_cut ∈ TB_ := tbm 1434 (by decide +kernel) (by decide +kernel)
set_option maxRecDepth 100000 in
theorem cb_X12_sawn : CB_ yX12_sawn cX12_sawn 14 (some .int) 1 := ⟨tbm 1443 rfl rfl, tbm 13 (by decide +kernel) (by decide +kernel), by decide, by decide, by decide +kernel, by decide +kernel, by decide +kernel⟩
theorem im_X12_sawn : Cond.instanceMethod yX12_sawn ∈ TB_ := tbm 1441 (by decide +kernel) (by decide +kernel)
theorem se_X12_sawn : Cond.selects yX12_sawn.cls yX12_sawn yX12_sawn ∈ TB_ := tbm 1442 (by decide +kernel) (by decide +kernel)
set_option maxRecDepth 100000 in
theorem cb_X12_costs : CB_ yX12_costs cX12_costs 6 (some .int) 2 := ⟨tbm 1452 rfl rfl, tbm 13 (by decide +kernel) (by decide +kernel), by decide, by decide, by decide +kernel, by decide +kernel, by decide +kernel⟩
theorem im_X12_costs : Cond.instanceMethod yX12_costs ∈ TB_ := tbm 1450 (by decide +kernel) (by decide +kernel)
theorem se_X12_costs : Cond.selects yX12_costs.cls yX12_costs yX12_costs ∈ TB_ := tbm 1451 (by decide +kernel) (by decide +kernel)
set_option maxRecDepth 100000 in
theorem cb_X12_world : CB_ yX12_world cX12_world 2 (some .int) 0 := ⟨tbm 1456 rfl rfl, tbm 13 (by decide +kernel) (by decide +kernel), by decide, by decide, by decide +kernel, by decide +kernel, by decide +kernel⟩
theorem im_X12_world : Cond.instanceMethod yX12_world ∈ TB_ := tbm 1454 (by decide +kernel) (by decide +kernel)
theorem se_X12_world : Cond.selects yX12_world.cls yX12_world yX12_world ∈ TB_ := tbm 1455 (by decide +kernel) (by decide +kernel)
set_option maxRecDepth 100000 in
theorem cb_X12_doubt : CB_ yX12_doubt cX12_doubt 7 (some .int) 4 := ⟨tbm 1460 rfl rfl, tbm 13 (by decide +kernel) (by decide +kernel), by decide, by decide, by decide +kernel, by decide +kernel, by decide +kernel⟩
theorem im_X12_doubt : Cond.instanceMethod yX12_doubt ∈ TB_ := tbm 1458 (by decide +kernel) (by decide +kernel)
theorem se_X12_doubt : Cond.selects yX12_doubt.cls yX12_doubt yX12_doubt ∈ TB_ := tbm 1459 (by decide +kernel) (by decide +kernel)
set_option maxRecDepth 100000 in
theorem cb_X12_choose : CB_ yX12_choose cX12_choose 7 (some .int) 1 := ⟨tbm 1464 rfl rfl, tbm 13 (by decide +kernel) (by decide +kernel), by decide, by decide, by decide +kernel, by decide +kernel, by decide +kernel⟩
theorem im_X12_choose : Cond.instanceMethod yX12_choose ∈ TB_ := tbm 1462 (by decide +kernel) (by decide +kernel)
theorem se_X12_choose : Cond.selects yX12_choose.cls yX12_choose yX12_choose ∈ TB_ := tbm 1463 (by decide +kernel) (by decide +kernel)
set_option maxRecDepth 100000 in
theorem cb_X12_store : CB_ yX12_store cX12_store 5 (some .int) 4 := ⟨tbm 1469 rfl rfl, tbm 13 (by decide +kernel) (by decide +kernel), by decide, by decide, by decide +kernel, by decide +kernel, by decide +kernel⟩
theorem im_X12_store : Cond.instanceMethod yX12_store ∈ TB_ := tbm 1467 (by decide +kernel) (by decide +kernel)
theorem se_X12_store : Cond.selects yX12_store.cls yX12_store yX12_store ∈ TB_ := tbm 1468 (by decide +kernel) (by decide +kernel)
set_option maxRecDepth 100000 in
theorem cb_X12_stored : CB_ yX12_stored cX12_stored 5 (some .int) 2 := ⟨tbm 1474 rfl rfl, tbm 13 (by decide +kernel) (by decide +kernel), by decide, by decide, by decide +kernel, by decide +kernel, by decide +kernel⟩
theorem im_X12_stored : Cond.instanceMethod yX12_stored ∈ TB_ := tbm 1472 (by decide +kernel) (by decide +kernel)
theorem se_X12_stored : Cond.selects yX12_stored.cls yX12_stored yX12_stored ∈ TB_ := tbm 1473 (by decide +kernel) (by decide +kernel)
set_option maxRecDepth 100000 in
theorem cb_X12_age : CB_ yX12_age cX12_age 2 (some .int) 0 := ⟨tbm 1483 rfl rfl, tbm 13 (by decide +kernel) (by decide +kernel), by decide, by decide, by decide +kernel, by decide +kernel, by decide +kernel⟩
theorem im_X12_age : Cond.instanceMethod yX12_age ∈ TB_ := tbm 1481 (by decide +kernel) (by decide +kernel)
theorem se_X12_age : Cond.selects yX12_age.cls yX12_age yX12_age ∈ TB_ := tbm 1482 (by decide +kernel) (by decide +kernel)
set_option maxRecDepth 100000 in
theorem cb_X12_order : CB_ yX12_order cX12_order 4 (some .int) 3 := ⟨tbm 1487 rfl rfl, tbm 13 (by decide +kernel) (by decide +kernel), by decide, by decide, by decide +kernel, by decide +kernel, by decide +kernel⟩
theorem im_X12_order : Cond.instanceMethod yX12_order ∈ TB_ := tbm 1485 (by decide +kernel) (by decide +kernel)
theorem se_X12_order : Cond.selects yX12_order.cls yX12_order yX12_order ∈ TB_ := tbm 1486 (by decide +kernel) (by decide +kernel)
set_option maxRecDepth 100000 in
theorem cb_X12_filled : CB_ yX12_filled cX12_filled 5 (some .int) 1 := ⟨tbm 1492 rfl rfl, tbm 13 (by decide +kernel) (by decide +kernel), by decide, by decide, by decide +kernel, by decide +kernel, by decide +kernel⟩
theorem im_X12_filled : Cond.instanceMethod yX12_filled ∈ TB_ := tbm 1490 (by decide +kernel) (by decide +kernel)
theorem se_X12_filled : Cond.selects yX12_filled.cls yX12_filled yX12_filled ∈ TB_ := tbm 1491 (by decide +kernel) (by decide +kernel)
set_option maxRecDepth 100000 in
theorem cb_X12_deliver : CB_ yX12_deliver cX12_deliver 5 (some .int) 0 := ⟨tbm 1501 rfl rfl, tbm 13 (by decide +kernel) (by decide +kernel), by decide, by decide, by decide +kernel, by decide +kernel, by decide +kernel⟩
theorem im_X12_deliver : Cond.instanceMethod yX12_deliver ∈ TB_ := tbm 1499 (by decide +kernel) (by decide +kernel)
theorem se_X12_deliver : Cond.selects yX12_deliver.cls yX12_deliver yX12_deliver ∈ TB_ := tbm 1500 (by decide +kernel) (by decide +kernel)
set_option maxRecDepth 100000 in
theorem cb_X12_gains : CB_ yX12_gains cX12_gains 6 (some .int) 2 := ⟨tbm 1505 rfl rfl, tbm 13 (by decide +kernel) (by decide +kernel), by decide, by decide, by decide +kernel, by decide +kernel, by decide +kernel⟩
theorem im_X12_gains : Cond.instanceMethod yX12_gains ∈ TB_ := tbm 1503 (by decide +kernel) (by decide +kernel)
theorem se_X12_gains : Cond.selects yX12_gains.cls yX12_gains yX12_gains ∈ TB_ := tbm 1504 (by decide +kernel) (by decide +kernel)
set_option maxRecDepth 100000 in
theorem cb_X12_pipe : CB_ yX12_pipe cX12_pipe 10 (some .int) 7 := ⟨tbm 1510 rfl rfl, tbm 13 (by decide +kernel) (by decide +kernel), by decide, by decide, by decide +kernel, by decide +kernel, by decide +kernel⟩
theorem im_X12_pipe : Cond.instanceMethod yX12_pipe ∈ TB_ := tbm 1508 (by decide +kernel) (by decide +kernel)
theorem se_X12_pipe : Cond.selects yX12_pipe.cls yX12_pipe yX12_pipe ∈ TB_ := tbm 1509 (by decide +kernel) (by decide +kernel)
set_option maxRecDepth 100000 in
theorem cb_X12_told : CB_ yX12_told cX12_told 3 (some .int) 2 := ⟨tbm 1524 rfl rfl, tbm 13 (by decide +kernel) (by decide +kernel), by decide, by decide, by decide +kernel, by decide +kernel, by decide +kernel⟩
theorem im_X12_told : Cond.instanceMethod yX12_told ∈ TB_ := tbm 1522 (by decide +kernel) (by decide +kernel)
theorem se_X12_told : Cond.selects yX12_told.cls yX12_told yX12_told ∈ TB_ := tbm 1523 (by decide +kernel) (by decide +kernel)
set_option maxRecDepth 100000 in
theorem cb_X12_feed : CB_ yX12_feed cX12_feed 4 (some .int) 1 := ⟨tbm 1536 rfl rfl, tbm 13 (by decide +kernel) (by decide +kernel), by decide, by decide, by decide +kernel, by decide +kernel, by decide +kernel⟩
theorem im_X12_feed : Cond.instanceMethod yX12_feed ∈ TB_ := tbm 1534 (by decide +kernel) (by decide +kernel)
theorem se_X12_feed : Cond.selects yX12_feed.cls yX12_feed yX12_feed ∈ TB_ := tbm 1535 (by decide +kernel) (by decide +kernel)
set_option maxRecDepth 100000 in
theorem cb_X12_end : CB_ yX12_end cX12_end 3 (some .int) 1 := ⟨tbm 1540 rfl rfl, tbm 13 (by decide +kernel) (by decide +kernel), by decide, by decide, by decide +kernel, by decide +kernel, by decide +kernel⟩
theorem im_X12_end : Cond.instanceMethod yX12_end ∈ TB_ := tbm 1538 (by decide +kernel) (by decide +kernel)
theorem se_X12_end : Cond.selects yX12_end.cls yX12_end yX12_end ∈ TB_ := tbm 1539 (by decide +kernel) (by decide +kernel)
set_option maxRecDepth 100000 in
theorem cb_X12_laws : CB_ yX12_laws cX12_laws 2 (some .int) 0 := ⟨tbm 1544 rfl rfl, tbm 13 (by decide +kernel) (by decide +kernel), by decide, by decide, by decide +kernel, by decide +kernel, by decide +kernel⟩
theorem im_X12_laws : Cond.instanceMethod yX12_laws ∈ TB_ := tbm 1542 (by decide +kernel) (by decide +kernel)
theorem se_X12_laws : Cond.selects yX12_laws.cls yX12_laws yX12_laws ∈ TB_ := tbm 1543 (by decide +kernel) (by decide +kernel)
set_option maxRecDepth 100000 in
theorem cb_X12_fault : CB_ yX12_fault cX12_fault 1 (some .int) 0 := ⟨tbm 1606 rfl rfl, tbm 13 (by decide +kernel) (by decide +kernel), by decide, by decide, by decide +kernel, by decide +kernel, by decide +kernel⟩
theorem im_X12_fault : Cond.instanceMethod yX12_fault ∈ TB_ := tbm 1604 (by decide +kernel) (by decide +kernel)
theorem se_X12_fault : Cond.selects yX12_fault.cls yX12_fault yX12_fault ∈ TB_ := tbm 1605 (by decide +kernel) (by decide +kernel)
set_option maxRecDepth 100000 in
theorem cb_X12_stamp : CB_ yX12_stamp cX12_stamp 3 (some .int) 2 := ⟨tbm 1610 rfl rfl, tbm 13 (by decide +kernel) (by decide +kernel), by decide, by decide, by decide +kernel, by decide +kernel, by decide +kernel⟩
theorem im_X12_stamp : Cond.instanceMethod yX12_stamp ∈ TB_ := tbm 1608 (by decide +kernel) (by decide +kernel)
theorem se_X12_stamp : Cond.selects yX12_stamp.cls yX12_stamp yX12_stamp ∈ TB_ := tbm 1609 (by decide +kernel) (by decide +kernel)
set_option maxRecDepth 100000 in
theorem cb_X12_name : CB_ yX12_name cX12_name 3 (some .int) 2 := ⟨tbm 1615 rfl rfl, tbm 13 (by decide +kernel) (by decide +kernel), by decide, by decide, by decide +kernel, by decide +kernel, by decide +kernel⟩
theorem im_X12_name : Cond.instanceMethod yX12_name ∈ TB_ := tbm 1613 (by decide +kernel) (by decide +kernel)
theorem se_X12_name : Cond.selects yX12_name.cls yX12_name yX12_name ∈ TB_ := tbm 1614 (by decide +kernel) (by decide +kernel)
set_option maxRecDepth 100000 in
theorem cb_X12_years : CB_ yX12_years cX12_years 4 (some .int) 2 := ⟨tbm 1619 rfl rfl, tbm 13 (by decide +kernel) (by decide +kernel), by decide, by decide, by decide +kernel, by decide +kernel, by decide +kernel⟩
theorem im_X12_years : Cond.instanceMethod yX12_years ∈ TB_ := tbm 1617 (by decide +kernel) (by decide +kernel)
theorem se_X12_years : Cond.selects yX12_years.cls yX12_years yX12_years ∈ TB_ := tbm 1618 (by decide +kernel) (by decide +kernel)
set_option maxRecDepth 100000 in
theorem cb_X12_dated : CB_ yX12_dated cX12_dated 4 (some .int) 1 := ⟨tbm 1627 rfl rfl, tbm 13 (by decide +kernel) (by decide +kernel), by decide, by decide, by decide +kernel, by decide +kernel, by decide +kernel⟩
theorem im_X12_dated : Cond.instanceMethod yX12_dated ∈ TB_ := tbm 1625 (by decide +kernel) (by decide +kernel)
theorem se_X12_dated : Cond.selects yX12_dated.cls yX12_dated yX12_dated ∈ TB_ := tbm 1626 (by decide +kernel) (by decide +kernel)
set_option maxRecDepth 100000 in
theorem cb_X12_lot : CB_ yX12_lot cX12_lot 3 (some .int) 2 := ⟨tbm 1633 rfl rfl, tbm 13 (by decide +kernel) (by decide +kernel), by decide, by decide, by decide +kernel, by decide +kernel, by decide +kernel⟩
theorem im_X12_lot : Cond.instanceMethod yX12_lot ∈ TB_ := tbm 1631 (by decide +kernel) (by decide +kernel)
theorem se_X12_lot : Cond.selects yX12_lot.cls yX12_lot yX12_lot ∈ TB_ := tbm 1632 (by decide +kernel) (by decide +kernel)
set_option maxRecDepth 100000 in
theorem cb_X12_worst : CB_ yX12_worst cX12_worst 5 (some .int) 0 := ⟨tbm 1648 rfl rfl, tbm 13 (by decide +kernel) (by decide +kernel), by decide, by decide, by decide +kernel, by decide +kernel, by decide +kernel⟩
theorem im_X12_worst : Cond.instanceMethod yX12_worst ∈ TB_ := tbm 1646 (by decide +kernel) (by decide +kernel)
theorem se_X12_worst : Cond.selects yX12_worst.cls yX12_worst yX12_worst ∈ TB_ := tbm 1647 (by decide +kernel) (by decide +kernel)
set_option maxRecDepth 100000 in
theorem cb_X12_sheet : CB_ yX12_sheet cX12_sheet 5 (some .int) 3 := ⟨tbm 1652 rfl rfl, tbm 13 (by decide +kernel) (by decide +kernel), by decide, by decide, by decide +kernel, by decide +kernel, by decide +kernel⟩
theorem im_X12_sheet : Cond.instanceMethod yX12_sheet ∈ TB_ := tbm 1650 (by decide +kernel) (by decide +kernel)
theorem se_X12_sheet : Cond.selects yX12_sheet.cls yX12_sheet yX12_sheet ∈ TB_ := tbm 1651 (by decide +kernel) (by decide +kernel)
set_option maxRecDepth 100000 in
theorem cb_X12_lay : CB_ yX12_lay cX12_lay 4 (some .int) 3 := ⟨tbm 1659 rfl rfl, tbm 13 (by decide +kernel) (by decide +kernel), by decide, by decide, by decide +kernel, by decide +kernel, by decide +kernel⟩
theorem im_X12_lay : Cond.instanceMethod yX12_lay ∈ TB_ := tbm 1657 (by decide +kernel) (by decide +kernel)
theorem se_X12_lay : Cond.selects yX12_lay.cls yX12_lay yX12_lay ∈ TB_ := tbm 1658 (by decide +kernel) (by decide +kernel)
set_option maxRecDepth 100000 in
theorem cb_X12_draw : CB_ yX12_draw cX12_draw 7 (some .int) 3 := ⟨tbm 1663 rfl rfl, tbm 13 (by decide +kernel) (by decide +kernel), by decide, by decide, by decide +kernel, by decide +kernel, by decide +kernel⟩
theorem im_X12_draw : Cond.instanceMethod yX12_draw ∈ TB_ := tbm 1661 (by decide +kernel) (by decide +kernel)
theorem se_X12_draw : Cond.selects yX12_draw.cls yX12_draw yX12_draw ∈ TB_ := tbm 1662 (by decide +kernel) (by decide +kernel)
set_option maxRecDepth 100000 in
theorem cb_X12_count : CB_ yX12_count cX12_count 5 (some .int) 1 := ⟨tbm 1671 rfl rfl, tbm 13 (by decide +kernel) (by decide +kernel), by decide, by decide, by decide +kernel, by decide +kernel, by decide +kernel⟩
theorem im_X12_count : Cond.instanceMethod yX12_count ∈ TB_ := tbm 1669 (by decide +kernel) (by decide +kernel)
theorem se_X12_count : Cond.selects yX12_count.cls yX12_count yX12_count ∈ TB_ := tbm 1670 (by decide +kernel) (by decide +kernel)
theorem fj_J0_9 : Cond.fieldLink RJ0 9 "java/lang/String" "value" "[B" ∈ TB_ := tbm 1673 (by decide +kernel) (by decide +kernel)
theorem fj_J0_15 : Cond.fieldLink RJ0 15 "java/lang/String" "coder" "B" ∈ TB_ := tbm 1674 (by decide +kernel) (by decide +kernel)
theorem fj_J0_38 : Cond.fieldLink RJ0 38 "java/lang/String" "COMPACT_STRINGS" "Z" ∈ TB_ := tbm 863 (by decide +kernel) (by decide +kernel)
theorem fj_J0_1053 : Cond.fieldLink RJ0 1053 "jdk/internal/util/Preconditions" "SIOOBE_FORMATTER" "Ljava/util/function/BiFunction;" ∈ TB_ := tbm 879 (by decide +kernel) (by decide +kernel)
theorem fj_J2_44 : Cond.fieldLink RJ2 44 "java/lang/StringUTF16" "$assertionsDisabled" "Z" ∈ TB_ := tbm 897 (by decide +kernel) (by decide +kernel)
theorem fj_J2_59 : Cond.fieldLink RJ2 59 "java/lang/StringUTF16" "HI_BYTE_SHIFT" "I" ∈ TB_ := tbm 899 (by decide +kernel) (by decide +kernel)
theorem fj_J2_63 : Cond.fieldLink RJ2 63 "java/lang/StringUTF16" "LO_BYTE_SHIFT" "I" ∈ TB_ := tbm 901 (by decide +kernel) (by decide +kernel)
theorem kc_X11_288 : Cond.constant RX11 288 (-1000000 : Int32) ∈ TB_ := tbm 779 (by decide +kernel) (by decide +kernel)
theorem kc_X12_75 : Cond.constant RX12 75 (36864 : Int32) ∈ TB_ := tbm 1132 (by decide +kernel) (by decide +kernel)
theorem kc_X12_242 : Cond.constant RX12 242 (-1000000 : Int32) ∈ TB_ := tbm 1506 (by decide +kernel) (by decide +kernel)
theorem kc_J6_265 : Cond.constant RJ6 265 (1431655765 : Int32) ∈ TB_ := tbm 598 (by decide +kernel) (by decide +kernel)
theorem kc_J6_266 : Cond.constant RJ6 266 (858993459 : Int32) ∈ TB_ := tbm 599 (by decide +kernel) (by decide +kernel)
theorem kc_J6_267 : Cond.constant RJ6 267 (252645135 : Int32) ∈ TB_ := tbm 600 (by decide +kernel) (by decide +kernel)
theorem kl_X11_418 : Cond.constantLong RX11 418 (-1 : Int64) ∈ TB_ := tbm 496 (by decide +kernel) (by decide +kernel)
theorem kl_X10_29 : Cond.constantLong RX10 29 (255 : Int64) ∈ TB_ := tbm 819 (by decide +kernel) (by decide +kernel)
theorem kl_X12_156 : Cond.constantLong RX12 156 (8 : Int64) ∈ TB_ := tbm 1347 (by decide +kernel) (by decide +kernel)
theorem kl_X12_164 : Cond.constantLong RX12 164 (9 : Int64) ∈ TB_ := tbm 1367 (by decide +kernel) (by decide +kernel)
theorem kl_X12_169 : Cond.constantLong RX12 169 (500 : Int64) ∈ TB_ := tbm 1376 (by decide +kernel) (by decide +kernel)
theorem kl_X12_216 : Cond.constantLong RX12 216 (3 : Int64) ∈ TB_ := tbm 1444 (by decide +kernel) (by decide +kernel)
theorem kl_X12_222 : Cond.constantLong RX12 222 (5 : Int64) ∈ TB_ := tbm 1465 (by decide +kernel) (by decide +kernel)
theorem kl_X12_224 : Cond.constantLong RX12 224 (99 : Int64) ∈ TB_ := tbm 1470 (by decide +kernel) (by decide +kernel)
theorem kl_X12_229 : Cond.constantLong RX12 229 (4 : Int64) ∈ TB_ := tbm 1475 (by decide +kernel) (by decide +kernel)
theorem kl_X12_234 : Cond.constantLong RX12 234 (1000 : Int64) ∈ TB_ := tbm 1488 (by decide +kernel) (by decide +kernel)
theorem kl_X12_236 : Cond.constantLong RX12 236 (10 : Int64) ∈ TB_ := tbm 1493 (by decide +kernel) (by decide +kernel)
theorem kl_X12_243 : Cond.constantLong RX12 243 (255 : Int64) ∈ TB_ := tbm 1511 (by decide +kernel) (by decide +kernel)
theorem kl_X12_245 : Cond.constantLong RX12 245 (-50 : Int64) ∈ TB_ := tbm 1512 (by decide +kernel) (by decide +kernel)
theorem kl_X12_247 : Cond.constantLong RX12 247 (50 : Int64) ∈ TB_ := tbm 1513 (by decide +kernel) (by decide +kernel)
theorem kl_X12_249 : Cond.constantLong RX12 249 (7 : Int64) ∈ TB_ := tbm 1514 (by decide +kernel) (by decide +kernel)
theorem kl_X12_291 : Cond.constantLong RX12 291 (97 : Int64) ∈ TB_ := tbm 1553 (by decide +kernel) (by decide +kernel)
theorem kl_X12_293 : Cond.constantLong RX12 293 (122 : Int64) ∈ TB_ := tbm 1554 (by decide +kernel) (by decide +kernel)
theorem kl_X12_305 : Cond.constantLong RX12 305 (65 : Int64) ∈ TB_ := tbm 1567 (by decide +kernel) (by decide +kernel)
theorem kl_X12_307 : Cond.constantLong RX12 307 (72 : Int64) ∈ TB_ := tbm 1568 (by decide +kernel) (by decide +kernel)
theorem kl_X12_309 : Cond.constantLong RX12 309 (48 : Int64) ∈ TB_ := tbm 1569 (by decide +kernel) (by decide +kernel)
theorem kl_X12_311 : Cond.constantLong RX12 311 (57 : Int64) ∈ TB_ := tbm 1570 (by decide +kernel) (by decide +kernel)
theorem kl_X12_355 : Cond.constantLong RX12 355 (2 : Int64) ∈ TB_ := tbm 1611 (by decide +kernel) (by decide +kernel)
theorem kl_X12_366 : Cond.constantLong RX12 366 (1800 : Int64) ∈ TB_ := tbm 1628 (by decide +kernel) (by decide +kernel)
theorem kl_X12_368 : Cond.constantLong RX12 368 (2000 : Int64) ∈ TB_ := tbm 1629 (by decide +kernel) (by decide +kernel)
theorem kl_J13_314 : Cond.constantLong RJ13 314 (6148914691236517205 : Int64) ∈ TB_ := tbm 1111 (by decide +kernel) (by decide +kernel)
theorem kl_J13_316 : Cond.constantLong RJ13 316 (3689348814741910323 : Int64) ∈ TB_ := tbm 1112 (by decide +kernel) (by decide +kernel)
theorem kl_J13_318 : Cond.constantLong RJ13 318 (1085102592571150095 : Int64) ∈ TB_ := tbm 1113 (by decide +kernel) (by decide +kernel)
def shX : List ShE := [.inl (11, [4, 6, 24, 30, 39, 0, 40, 45, 52, 59, 64, 2, 2, 77]), .inl (1, [0, 0, 1, 5]), .inr (0, 64, fun _ => 0), .inl (0, [7, 0, 0]), .inr (3, 8, fun i => 5 + 2 * i), .inl (1, [0, 0, 1, 9]), .inr (0, 64, fun _ => 0), .inl (1, [0, 0, 1, 11]), .inr (0, 64, fun _ => 0), .inl (1, [0, 0, 1, 13]), .inr (0, 64, fun _ => 0), .inl (1, [0, 0, 1, 15]), .inr (0, 64, fun _ => 0), .inl (1, [0, 0, 1, 17]), .inr (0, 64, fun _ => 0), .inl (1, [0, 0, 1, 19]), .inr (0, 64, fun _ => 0), .inl (1, [0, 0, 1, 21]), .inr (0, 64, fun _ => 0), .inl (1, [0, 0, 1, 23]), .inr (0, 64, fun _ => 0), .inl (7, [25, 26, 27, 28, 29, 0]), .inr (0, 8, fun _ => 0), .inr (0, 8, fun _ => 0), .inr (0, 8, fun _ => 0), .inr (0, 8, fun _ => 0), .inr (1, 8, fun _ => 0), .inl (6, [4, 24, 31, 0, 32, 33, 34, 35, 36, 37, 38, 0, 0, 0]), .inr (2, 4, fun _ => 0), .inr (0, 64, fun _ => 0), .inr (0, 64, fun _ => 0), .inr (0, 8, fun _ => 0), .inr (0, 8, fun _ => 0), .inr (0, 4096, fun _ => 0), .inr (0, 64, fun _ => 0), .inr (0, 8, fun _ => 0), .inr (2, 4, fun _ => 0), .inl (9, [41, 42, 43, 44, 0]), .inr (0, 12, fun _ => 0), .inr (0, 12, fun _ => 0), .inr (0, 12, fun _ => 0), .inr (0, 12, fun _ => 0), .inl (4, [40, 24, 46, 47, 48, 0, 49, 50, 51, 0, 0]), .inr (0, 8, fun _ => 0), .inr (0, 8, fun _ => 0), .inr (0, 8, fun _ => 0), .inr (0, 8, fun _ => 0), .inr (0, 8, fun _ => 0), .inr (0, 12, fun _ => 0), .inl (5, [53, 54, 55, 56, 57, 58, 0]), .inr (0, 12, fun _ => 0), .inr (0, 12, fun _ => 0), .inr (0, 12, fun _ => 0), .inr (0, 12, fun _ => 0), .inr (0, 12, fun _ => 0), .inr (0, 12, fun _ => 0), .inl (10, [60, 0, 61, 62, 63, 0]), .inr (0, 200, fun _ => 0), .inr (0, 201, fun _ => 0), .inr (0, 201, fun _ => 0), .inr (0, 201, fun _ => 0), .inl (2, [59, 0, 0, 0, 0, 0, 0]), .inl (3, [66, 67, 68, 69, 70, 0, 0, 0, 0, 0]), .inr (0, 8, fun _ => 0), .inr (0, 8, fun _ => 0), .inr (0, 8, fun _ => 0), .inr (0, 8, fun _ => 0), .inr (0, 8, fun _ => 0), .inl (3, [72, 73, 74, 75, 76, 0, 0, 0, 0, 0]), .inr (0, 8, fun _ => 0), .inr (0, 8, fun _ => 0), .inr (0, 8, fun _ => 0), .inr (0, 8, fun _ => 0), .inr (0, 8, fun _ => 0), .inr (4, 4, fun i => 75 + 2 * i), .inl (8, [0, 0, 79]), .inr (0, 64, fun _ => 0), .inl (8, [0, 0, 81]), .inr (0, 64, fun _ => 0), .inl (8, [0, 0, 83]), .inr (0, 64, fun _ => 0), .inl (8, [0, 0, 85]), .inr (0, 64, fun _ => 0)]
theorem sX_0 : shX[0]? = some (.inl (11, [4, 6, 24, 30, 39, 0, 40, 45, 52, 59, 64, 2, 2, 77])) := rfl
theorem sX_1 : shX[1]? = some (.inl (1, [0, 0, 1, 5])) := rfl
theorem sX_2 : shX[2]? = some (.inr (0, 64, fun _ => 0)) := rfl
theorem sX_3 : shX[3]? = some (.inl (0, [7, 0, 0])) := rfl
theorem sX_4 : shX[4]? = some (.inr (3, 8, fun i => 5 + 2 * i)) := rfl
theorem sX_5 : shX[5]? = some (.inl (1, [0, 0, 1, 9])) := rfl
theorem sX_6 : shX[6]? = some (.inr (0, 64, fun _ => 0)) := rfl
theorem sX_7 : shX[7]? = some (.inl (1, [0, 0, 1, 11])) := rfl
theorem sX_8 : shX[8]? = some (.inr (0, 64, fun _ => 0)) := rfl
theorem sX_9 : shX[9]? = some (.inl (1, [0, 0, 1, 13])) := rfl
theorem sX_10 : shX[10]? = some (.inr (0, 64, fun _ => 0)) := rfl
theorem sX_11 : shX[11]? = some (.inl (1, [0, 0, 1, 15])) := rfl
theorem sX_12 : shX[12]? = some (.inr (0, 64, fun _ => 0)) := rfl
theorem sX_13 : shX[13]? = some (.inl (1, [0, 0, 1, 17])) := rfl
theorem sX_14 : shX[14]? = some (.inr (0, 64, fun _ => 0)) := rfl
theorem sX_15 : shX[15]? = some (.inl (1, [0, 0, 1, 19])) := rfl
theorem sX_16 : shX[16]? = some (.inr (0, 64, fun _ => 0)) := rfl
theorem sX_17 : shX[17]? = some (.inl (1, [0, 0, 1, 21])) := rfl
theorem sX_18 : shX[18]? = some (.inr (0, 64, fun _ => 0)) := rfl
theorem sX_19 : shX[19]? = some (.inl (1, [0, 0, 1, 23])) := rfl
theorem sX_20 : shX[20]? = some (.inr (0, 64, fun _ => 0)) := rfl
theorem sX_21 : shX[21]? = some (.inl (7, [25, 26, 27, 28, 29, 0])) := rfl
theorem sX_22 : shX[22]? = some (.inr (0, 8, fun _ => 0)) := rfl
theorem sX_23 : shX[23]? = some (.inr (0, 8, fun _ => 0)) := rfl
theorem sX_24 : shX[24]? = some (.inr (0, 8, fun _ => 0)) := rfl
theorem sX_25 : shX[25]? = some (.inr (0, 8, fun _ => 0)) := rfl
theorem sX_26 : shX[26]? = some (.inr (1, 8, fun _ => 0)) := rfl
theorem sX_27 : shX[27]? = some (.inl (6, [4, 24, 31, 0, 32, 33, 34, 35, 36, 37, 38, 0, 0, 0])) := rfl
theorem sX_28 : shX[28]? = some (.inr (2, 4, fun _ => 0)) := rfl
theorem sX_29 : shX[29]? = some (.inr (0, 64, fun _ => 0)) := rfl
theorem sX_30 : shX[30]? = some (.inr (0, 64, fun _ => 0)) := rfl
theorem sX_31 : shX[31]? = some (.inr (0, 8, fun _ => 0)) := rfl
theorem sX_32 : shX[32]? = some (.inr (0, 8, fun _ => 0)) := rfl
theorem sX_33 : shX[33]? = some (.inr (0, 4096, fun _ => 0)) := rfl
theorem sX_34 : shX[34]? = some (.inr (0, 64, fun _ => 0)) := rfl
theorem sX_35 : shX[35]? = some (.inr (0, 8, fun _ => 0)) := rfl
theorem sX_36 : shX[36]? = some (.inr (2, 4, fun _ => 0)) := rfl
theorem sX_37 : shX[37]? = some (.inl (9, [41, 42, 43, 44, 0])) := rfl
theorem sX_38 : shX[38]? = some (.inr (0, 12, fun _ => 0)) := rfl
theorem sX_39 : shX[39]? = some (.inr (0, 12, fun _ => 0)) := rfl
theorem sX_40 : shX[40]? = some (.inr (0, 12, fun _ => 0)) := rfl
theorem sX_41 : shX[41]? = some (.inr (0, 12, fun _ => 0)) := rfl
theorem sX_42 : shX[42]? = some (.inl (4, [40, 24, 46, 47, 48, 0, 49, 50, 51, 0, 0])) := rfl
theorem sX_43 : shX[43]? = some (.inr (0, 8, fun _ => 0)) := rfl
theorem sX_44 : shX[44]? = some (.inr (0, 8, fun _ => 0)) := rfl
theorem sX_45 : shX[45]? = some (.inr (0, 8, fun _ => 0)) := rfl
theorem sX_46 : shX[46]? = some (.inr (0, 8, fun _ => 0)) := rfl
theorem sX_47 : shX[47]? = some (.inr (0, 8, fun _ => 0)) := rfl
theorem sX_48 : shX[48]? = some (.inr (0, 12, fun _ => 0)) := rfl
theorem sX_49 : shX[49]? = some (.inl (5, [53, 54, 55, 56, 57, 58, 0])) := rfl
theorem sX_50 : shX[50]? = some (.inr (0, 12, fun _ => 0)) := rfl
theorem sX_51 : shX[51]? = some (.inr (0, 12, fun _ => 0)) := rfl
theorem sX_52 : shX[52]? = some (.inr (0, 12, fun _ => 0)) := rfl
theorem sX_53 : shX[53]? = some (.inr (0, 12, fun _ => 0)) := rfl
theorem sX_54 : shX[54]? = some (.inr (0, 12, fun _ => 0)) := rfl
theorem sX_55 : shX[55]? = some (.inr (0, 12, fun _ => 0)) := rfl
theorem sX_56 : shX[56]? = some (.inl (10, [60, 0, 61, 62, 63, 0])) := rfl
theorem sX_57 : shX[57]? = some (.inr (0, 200, fun _ => 0)) := rfl
theorem sX_58 : shX[58]? = some (.inr (0, 201, fun _ => 0)) := rfl
theorem sX_59 : shX[59]? = some (.inr (0, 201, fun _ => 0)) := rfl
theorem sX_60 : shX[60]? = some (.inr (0, 201, fun _ => 0)) := rfl
theorem sX_61 : shX[61]? = some (.inl (2, [59, 0, 0, 0, 0, 0, 0])) := rfl
theorem sX_62 : shX[62]? = some (.inl (3, [66, 67, 68, 69, 70, 0, 0, 0, 0, 0])) := rfl
theorem sX_63 : shX[63]? = some (.inr (0, 8, fun _ => 0)) := rfl
theorem sX_64 : shX[64]? = some (.inr (0, 8, fun _ => 0)) := rfl
theorem sX_65 : shX[65]? = some (.inr (0, 8, fun _ => 0)) := rfl
theorem sX_66 : shX[66]? = some (.inr (0, 8, fun _ => 0)) := rfl
theorem sX_67 : shX[67]? = some (.inr (0, 8, fun _ => 0)) := rfl
theorem sX_68 : shX[68]? = some (.inl (3, [72, 73, 74, 75, 76, 0, 0, 0, 0, 0])) := rfl
theorem sX_69 : shX[69]? = some (.inr (0, 8, fun _ => 0)) := rfl
theorem sX_70 : shX[70]? = some (.inr (0, 8, fun _ => 0)) := rfl
theorem sX_71 : shX[71]? = some (.inr (0, 8, fun _ => 0)) := rfl
theorem sX_72 : shX[72]? = some (.inr (0, 8, fun _ => 0)) := rfl
theorem sX_73 : shX[73]? = some (.inr (0, 8, fun _ => 0)) := rfl
theorem sX_74 : shX[74]? = some (.inr (4, 4, fun i => 75 + 2 * i)) := rfl
theorem sX_75 : shX[75]? = some (.inl (8, [0, 0, 79])) := rfl
theorem sX_76 : shX[76]? = some (.inr (0, 64, fun _ => 0)) := rfl
theorem sX_77 : shX[77]? = some (.inl (8, [0, 0, 81])) := rfl
theorem sX_78 : shX[78]? = some (.inr (0, 64, fun _ => 0)) := rfl
theorem sX_79 : shX[79]? = some (.inl (8, [0, 0, 83])) := rfl
theorem sX_80 : shX[80]? = some (.inr (0, 64, fun _ => 0)) := rfl
theorem sX_81 : shX[81]? = some (.inl (8, [0, 0, 85])) := rfl
theorem sX_82 : shX[82]? = some (.inr (0, 64, fun _ => 0)) := rfl
def shM : List ShE := [.inl (12, [0, 0, 4, 5, 0, 6, 0, 7, 8, 0, 9, 10, 11, 12, 13, 14, 15, 0, 16, 17, 18, 19, 0, 20, 21, 22, 23, 24, 0, 25, 26, 27, 28, 29, 30, 31, 0, 0, 0, 0, 0, 0, 0, 32, 33, 34, 0, 35, 36, 0, 37, 38, 39, 0, 40, 41, 0, 0, 0, 0, 0, 0, 0, 0, 42, 43, 44]), .inr (1, 64, fun _ => 0), .inr (0, 64, fun _ => 0), .inr (1, 256, fun _ => 0), .inr (1, 512, fun _ => 0), .inr (0, 512, fun _ => 0), .inr (0, 8, fun _ => 0), .inr (0, 8, fun _ => 0), .inr (0, 8, fun _ => 0), .inr (0, 8, fun _ => 0), .inr (1, 8, fun _ => 0), .inr (0, 4096, fun _ => 0), .inr (0, 64, fun _ => 0), .inr (0, 12, fun _ => 0), .inr (0, 12, fun _ => 0), .inr (0, 12, fun _ => 0), .inr (0, 12, fun _ => 0), .inr (0, 8, fun _ => 0), .inr (0, 8, fun _ => 0), .inr (0, 8, fun _ => 0), .inr (0, 36864, fun _ => 0), .inr (0, 8, fun _ => 0), .inr (0, 12, fun _ => 0), .inr (0, 12, fun _ => 0), .inr (1, 12, fun _ => 0), .inr (0, 12, fun _ => 0), .inr (0, 12, fun _ => 0), .inr (0, 12, fun _ => 0), .inr (0, 200, fun _ => 0), .inr (0, 8, fun _ => 0), .inr (0, 8, fun _ => 0), .inr (0, 8, fun _ => 0), .inr (0, 8, fun _ => 0), .inr (0, 8, fun _ => 0), .inr (0, 8, fun _ => 0), .inr (0, 8, fun _ => 0), .inr (0, 8, fun _ => 0), .inr (0, 8, fun _ => 0), .inr (0, 8, fun _ => 0), .inr (0, 4, fun _ => 0), .inr (0, 4, fun _ => 0), .inr (0, 256, fun _ => 0)]
theorem sM_0 : shM[0]? = some (.inl (12, [0, 0, 4, 5, 0, 6, 0, 7, 8, 0, 9, 10, 11, 12, 13, 14, 15, 0, 16, 17, 18, 19, 0, 20, 21, 22, 23, 24, 0, 25, 26, 27, 28, 29, 30, 31, 0, 0, 0, 0, 0, 0, 0, 32, 33, 34, 0, 35, 36, 0, 37, 38, 39, 0, 40, 41, 0, 0, 0, 0, 0, 0, 0, 0, 42, 43, 44])) := rfl
theorem sM_1 : shM[1]? = some (.inr (1, 64, fun _ => 0)) := rfl
theorem sM_2 : shM[2]? = some (.inr (0, 64, fun _ => 0)) := rfl
theorem sM_3 : shM[3]? = some (.inr (1, 256, fun _ => 0)) := rfl
theorem sM_4 : shM[4]? = some (.inr (1, 512, fun _ => 0)) := rfl
theorem sM_5 : shM[5]? = some (.inr (0, 512, fun _ => 0)) := rfl
theorem sM_6 : shM[6]? = some (.inr (0, 8, fun _ => 0)) := rfl
theorem sM_7 : shM[7]? = some (.inr (0, 8, fun _ => 0)) := rfl
theorem sM_8 : shM[8]? = some (.inr (0, 8, fun _ => 0)) := rfl
theorem sM_9 : shM[9]? = some (.inr (0, 8, fun _ => 0)) := rfl
theorem sM_10 : shM[10]? = some (.inr (1, 8, fun _ => 0)) := rfl
theorem sM_11 : shM[11]? = some (.inr (0, 4096, fun _ => 0)) := rfl
theorem sM_12 : shM[12]? = some (.inr (0, 64, fun _ => 0)) := rfl
theorem sM_13 : shM[13]? = some (.inr (0, 12, fun _ => 0)) := rfl
theorem sM_14 : shM[14]? = some (.inr (0, 12, fun _ => 0)) := rfl
theorem sM_15 : shM[15]? = some (.inr (0, 12, fun _ => 0)) := rfl
theorem sM_16 : shM[16]? = some (.inr (0, 12, fun _ => 0)) := rfl
theorem sM_17 : shM[17]? = some (.inr (0, 8, fun _ => 0)) := rfl
theorem sM_18 : shM[18]? = some (.inr (0, 8, fun _ => 0)) := rfl
theorem sM_19 : shM[19]? = some (.inr (0, 8, fun _ => 0)) := rfl
theorem sM_20 : shM[20]? = some (.inr (0, 36864, fun _ => 0)) := rfl
theorem sM_21 : shM[21]? = some (.inr (0, 8, fun _ => 0)) := rfl
theorem sM_22 : shM[22]? = some (.inr (0, 12, fun _ => 0)) := rfl
theorem sM_23 : shM[23]? = some (.inr (0, 12, fun _ => 0)) := rfl
theorem sM_24 : shM[24]? = some (.inr (1, 12, fun _ => 0)) := rfl
theorem sM_25 : shM[25]? = some (.inr (0, 12, fun _ => 0)) := rfl
theorem sM_26 : shM[26]? = some (.inr (0, 12, fun _ => 0)) := rfl
theorem sM_27 : shM[27]? = some (.inr (0, 12, fun _ => 0)) := rfl
theorem sM_28 : shM[28]? = some (.inr (0, 200, fun _ => 0)) := rfl
theorem sM_29 : shM[29]? = some (.inr (0, 8, fun _ => 0)) := rfl
theorem sM_30 : shM[30]? = some (.inr (0, 8, fun _ => 0)) := rfl
theorem sM_31 : shM[31]? = some (.inr (0, 8, fun _ => 0)) := rfl
theorem sM_32 : shM[32]? = some (.inr (0, 8, fun _ => 0)) := rfl
theorem sM_33 : shM[33]? = some (.inr (0, 8, fun _ => 0)) := rfl
theorem sM_34 : shM[34]? = some (.inr (0, 8, fun _ => 0)) := rfl
theorem sM_35 : shM[35]? = some (.inr (0, 8, fun _ => 0)) := rfl
theorem sM_36 : shM[36]? = some (.inr (0, 8, fun _ => 0)) := rfl
theorem sM_37 : shM[37]? = some (.inr (0, 8, fun _ => 0)) := rfl
theorem sM_38 : shM[38]? = some (.inr (0, 8, fun _ => 0)) := rfl
theorem sM_39 : shM[39]? = some (.inr (0, 4, fun _ => 0)) := rfl
theorem sM_40 : shM[40]? = some (.inr (0, 4, fun _ => 0)) := rfl
theorem sM_41 : shM[41]? = some (.inr (0, 256, fun _ => 0)) := rfl
