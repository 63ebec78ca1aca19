theorem kin_X11 : Cond.instantiable RX11 14 ∈ TB_ := tbm 23 (by decide +kernel) (by decide +kernel)
theorem kini_X11 : Cond.initialized RX11 ∈ TB_ := tbm 1 (by decide +kernel) (by decide +kernel)
theorem dv_X11 : ∀ j, j < 14 → defaultValue (tyX11 j) = vp_V [.null, .null, .null, .null, .null, .int 0, .null, .null, .null, .null, .null, .null, .null, .null] j := fun j hj => by
  match j, hj with
  | 0, _ => rfl
  | 1, _ => rfl
  | 2, _ => rfl
  | 3, _ => rfl
  | 4, _ => rfl
  | 5, _ => rfl
  | 6, _ => rfl
  | 7, _ => rfl
  | 8, _ => rfl
  | 9, _ => rfl
  | 10, _ => rfl
  | 11, _ => rfl
  | 12, _ => rfl
  | 13, _ => rfl
theorem kin_X12 : Cond.instantiable RX12 67 ∈ TB_ := tbm 1127 (by decide +kernel) (by decide +kernel)
theorem kini_X12 : Cond.initialized RX12 ∈ TB_ := tbm 13 (by decide +kernel) (by decide +kernel)
theorem dv_X12 : ∀ j, j < 67 → defaultValue (tyX12 j) = vp_V [.int 0, .int 0, .null, .null, .int 0, .null, .int 0, .null, .null, .int 0, .null, .null, .null, .null, .null, .null, .null, .int 0, .null, .null, .null, .null, .int 0, .null, .null, .null, .null, .null, .int 0, .null, .null, .null, .null, .null, .null, .null, .int 0, .int 0, .int 0, .int 0, .int 0, .int 0, .int 0, .null, .null, .null, .int 0, .null, .null, .int 0, .null, .null, .null, .int 0, .null, .null, .int 0, .int 0, .int 0, .int 0, .int 0, .int 0, .int 0, .int 0, .null, .null, .null] j := fun j hj => by
  match j, hj with
  | 0, _ => rfl
  | 1, _ => rfl
  | 2, _ => rfl
  | 3, _ => rfl
  | 4, _ => rfl
  | 5, _ => rfl
  | 6, _ => rfl
  | 7, _ => rfl
  | 8, _ => rfl
  | 9, _ => rfl
  | 10, _ => rfl
  | 11, _ => rfl
  | 12, _ => rfl
  | 13, _ => rfl
  | 14, _ => rfl
  | 15, _ => rfl
  | 16, _ => rfl
  | 17, _ => rfl
  | 18, _ => rfl
  | 19, _ => rfl
  | 20, _ => rfl
  | 21, _ => rfl
  | 22, _ => rfl
  | 23, _ => rfl
  | 24, _ => rfl
  | 25, _ => rfl
  | 26, _ => rfl
  | 27, _ => rfl
  | 28, _ => rfl
  | 29, _ => rfl
  | 30, _ => rfl
  | 31, _ => rfl
  | 32, _ => rfl
  | 33, _ => rfl
  | 34, _ => rfl
  | 35, _ => rfl
  | 36, _ => rfl
  | 37, _ => rfl
  | 38, _ => rfl
  | 39, _ => rfl
  | 40, _ => rfl
  | 41, _ => rfl
  | 42, _ => rfl
  | 43, _ => rfl
  | 44, _ => rfl
  | 45, _ => rfl
  | 46, _ => rfl
  | 47, _ => rfl
  | 48, _ => rfl
  | 49, _ => rfl
  | 50, _ => rfl
  | 51, _ => rfl
  | 52, _ => rfl
  | 53, _ => rfl
  | 54, _ => rfl
  | 55, _ => rfl
  | 56, _ => rfl
  | 57, _ => rfl
  | 58, _ => rfl
  | 59, _ => rfl
  | 60, _ => rfl
  | 61, _ => rfl
  | 62, _ => rfl
  | 63, _ => rfl
  | 64, _ => rfl
  | 65, _ => rfl
  | 66, _ => rfl
  | j + 67, h => exact absurd h (by omega)
theorem kcl_L_7 : Cond.classLink R_law 7 RX11 ∈ TB_ := tbm 22 (by decide +kernel) (by decide +kernel)
theorem kcl_L_10 : Cond.classLink R_law 10 RX12 ∈ TB_ := tbm 1126 (by decide +kernel) (by decide +kernel)
theorem kml_L_9 : Cond.methodLink R_law 9 yX11_init ∈ TB_ := tbm 24 (by decide +kernel) (by decide +kernel)
theorem kim2_X11_init : Cond.instanceMethod yX11_init ∈ TB_ := tbm 25 (by decide +kernel) (by decide +kernel)
theorem kml_L_12 : Cond.methodLink R_law 12 yX12_init ∈ TB_ := tbm 1128 (by decide +kernel) (by decide +kernel)
theorem kim2_X12_init : Cond.instanceMethod yX12_init ∈ TB_ := tbm 1129 (by decide +kernel) (by decide +kernel)
theorem nest_in : ∀ q ∈ nest_, Cond.methodLinkNest q.1 q.2.1 q.2.2 "BurlPipes" ∈ lw_tbl := fun q hq => List.mem_append_right _ ((by decide +kernel : ∀ q ∈ nest_, Cond.methodLinkNest q.1 q.2.1 q.2.2 "BurlPipes" ∈ tables_1) q hq)
theorem ao_Board : Cond.arrayOver (.object "BurlPipes$Board") ∈ lw_tbl := List.mem_append_right _ (List.mem_of_getElem? (i := 64) (by decide +kernel))
theorem ao_Sheet : Cond.arrayOver (.object "BurlPipes$Sheet") ∈ lw_tbl := List.mem_append_right _ (List.mem_of_getElem? (i := 391) (by decide +kernel))
theorem tx_in : ∀ i, i < 5 → Cond.stringRef "BurlPipes$Tape" (tx_.getD i (0, "")).1 (tx_.getD i (0, "")).2 ∈ tables_1 := by decide +kernel
theorem ls_cs : Cond.laysStatic "java/lang/String" "COMPACT_STRINGS" "Z" ∈ lw_tbl := List.mem_append_right _ (List.mem_of_getElem? (i := 864) (by decide +kernel))
theorem ls_sf : Cond.laysStatic "jdk/internal/util/Preconditions" "SIOOBE_FORMATTER" "Ljava/util/function/BiFunction;" ∈ lw_tbl := List.mem_append_right _ (List.mem_of_getElem? (i := 880) (by decide +kernel))
theorem in_st : Cond.initialized "java/lang/String" ∈ lw_tbl := List.mem_append_right _ (List.mem_of_getElem? (i := 17) (by decide +kernel))
theorem in_pc : Cond.initialized "jdk/internal/util/Preconditions" ∈ lw_tbl := List.mem_append_right _ (List.mem_of_getElem? (i := 19) (by decide +kernel))
def tm_ (i : Nat) : Term := .string "BurlPipes$Tape" (tx_.getD i (0, "")).1
def fl_ : List Cond := flatC (Jvm.Cond.and given_1 narrow_1)
theorem fl_ex : ∀ i, i < 5 → Cond.exactly (tm_ i) "java/lang/String" ∈ fl_ := by decide +kernel
theorem fl_co : ∀ i, i < 5 → Cond.eq (.field (tm_ i) "java/lang/String" "coder" "B") (.int 0) ∈ fl_ := by decide +kernel
theorem fl_ar : ∀ i, i < 5 → Cond.arrayOf (.field (tm_ i) "java/lang/String" "value" "[B") .byte ∈ fl_ := by decide +kernel
theorem fl_le : ∀ i, i < 5 → Cond.eq (.length (.field (tm_ i) "java/lang/String" "value" "[B")) (.int (Int32.ofNat (txL_.getD i 0))) ∈ fl_ := by decide +kernel
theorem fl_el : ∀ i, i < 5 → ∀ j, j < txL_.getD i 0 → Cond.eq (.elem (.field (tm_ i) "java/lang/String" "value" "[B") (.int (Int32.ofNat j))) (.int ((txB_.getD i []).getD j 0)) ∈ fl_ := by decide +kernel
theorem fl_ne : ∀ i, i < 5 → ∀ j, j < 5 → i ≠ j → Cond.not (Cond.eq (tm_ i) (tm_ j)) ∈ fl_ ∨ Cond.not (Cond.eq (tm_ j) (tm_ i)) ∈ fl_ := by decide +kernel
theorem fl_cs : Cond.eq (.static "java/lang/String" "COMPACT_STRINGS" "Z") (.int 1) ∈ fl_ := by decide +kernel
theorem fl_sf : Cond.isRef (.static "jdk/internal/util/Preconditions" "SIOOBE_FORMATTER" "Ljava/util/function/BiFunction;") ∈ fl_ := by decide +kernel
/-- the texts and the statics at the law's entry -/
theorem start_ext {p : Program} {s : State} {m : MethodId} {meth : Method} {c : Code} {b L : Nat} {xs : Nat → Int32} (C0 : lw_At p s m meth c b L xs) : ∃ kS kV : Nat → Nat, (∀ i q, tx_[i]? = some q → vk_R "BurlPipes$Tape" q.1 q.2 (kS i) s) ∧ vk_S 5 txL_ txB_ kS kV (fun q => s.heap.size ≤ q) s s.heap ∧ va_Z "java/lang/String" "COMPACT_STRINGS" "Z" (.int 1) (fun q => s.heap.size ≤ q) s s.heap ∧ va_Zq "jdk/internal/util/Preconditions" "SIOOBE_FORMATTER" "Ljava/util/function/BiFunction;" (fun q => s.heap.size ≤ q) s s.heap := by
  obtain ⟨hx, hb, hr, hml, hown, hts, hX, hbl, hlocks, hgv⟩ := C0
  have hf : ∀ c ∈ fl_, c.before #[Value.ref b] s = true := flat_of_before _ hgv
  have hA : ∀ a : Nat, a < s.heap.size → ¬ (fun q => s.heap.size ≤ q) a := fun a ha => Nat.not_le.mpr ha
  obtain ⟨kS, kV, h1, h2⟩ := vk_Sof (args := #[Value.ref b]) (s := s) (N := 5) (tm := tm_) (len := txL_) (byt := txB_) (A := fun q => s.heap.size ≤ q) sc_in (fun i hi => hf _ (fl_ex i hi)) (fun i hi => hf _ (fl_co i hi)) (fun i hi => hf _ (fl_ar i hi)) (fun i hi => hf _ (fl_le i hi)) (fun i hi j hj => hf _ (fl_el i hi j hj)) (fun i j hi hj hn => (fl_ne i hi j hj hn).elim (fun h => Or.inl (hf _ h)) (fun h => Or.inr (hf _ h))) hA
  refine ⟨kS, kV, fun i q hq => ?_, h1, va_Zof (hts _ ls_cs) (hts _ in_st) (va_eqt (hf _ fl_cs)) hA, va_Zqof (hts _ ls_sf) (hts _ in_pc) (hf _ fl_sf) hA⟩
  have hi : i < 5 := (List.getElem?_eq_some_iff.mp hq).1
  have e : tx_.getD i (0, "") = q := by rw [List.getD_eq_getElem?_getD, hq]; rfl
  have w1 := hts _ (List.mem_append_right _ (tx_in i hi))
  have w2 := h2 i hi
  unfold tm_ at w2
  rw [e] at w1 w2
  exact vk_R.of w1 w2
theorem arrV_same {cA : ClassId} {n : Nat} {f g : Nat → Value} (h : ∀ j, j < n → f j = g j) : arrV cA n f = arrV cA n g := by
  unfold arrV
  congr 1
  apply Array.ext
  · simp
  · intro i h1 h2
    simp at h1 ⊢
    exact h i h1
theorem P_row {D : va_G} {ws : va_W} {H : Heap} (k : Nat) {a n : Nat} {cA : ClassId} {f g : Nat → Option Nat} (ws2 : va_W) (hP : va_P D vwCl ws H) (hk : ws[k]? = some (a, .inl (cA, n, .inr (.inr (.inr (.inr f)))))) (hfg : ∀ j, j < n → f j = g j) (hw : ws.set k (a, .inl (cA, n, .inr (.inr (.inr (.inr g))))) = ws2) : va_P D vwCl ws2 H := by
  subst hw
  intro i q hq
  rw [List.getElem?_set] at hq
  split at hq
  · rename_i e
    subst e
    split at hq
    · cases hq
      have h1 := hP k _ hk
      show H[a]? = some (vp_cell cA (n, .inr (.inr (.inr (.inr g)))))
      rw [← show vp_cell cA (n, .inr (.inr (.inr (.inr f)))) = vp_cell cA (n, .inr (.inr (.inr (.inr g)))) from (vp_cell_q cA n f).trans ((arrV_same (f := fun j => va_rf (f j)) (g := fun j => va_rf (g j)) (fun j hj => congrArg va_rf (hfg j hj))).trans (vp_cell_q cA n g).symm)]
      exact h1
    · cases hq
  · exact hP i q hq
theorem D_row {A : Nat → Prop} {ws : va_W} (k : Nat) {a : Nat} {e0 e1 : va_E} (ws2 : va_W) (hD : va_D A ws) (hk : ws[k]? = some (a, e0)) (hw : ws.set k (a, e1) = ws2) : va_D A ws2 := hw ▸ hD.set hk
theorem inj_of {A : Nat → Prop} {G : Gx} {sh : List ShE} {S : St} (h : va_D A (pic_ G sh S)) : inj_ G sh := by
  intro i j hi hj he
  exact h.1 i j _ _ (pic_get (List.getElem?_eq_getElem hi)) (pic_get (List.getElem?_eq_getElem hj)) he
theorem sub_of {A : Nat → Prop} {G : Gx} {sh : List ShE} {S : St} (h : va_D A (pic_ G sh S)) : ∀ q, A_ G sh q → A q := by
  rintro q ⟨k, hk, rfl⟩
  exact h.2 k _ (pic_get (List.getElem?_eq_getElem hk))
theorem D_app1 {A : Nat → Prop} {a b : va_W} (h : va_D A (a ++ b)) : va_D A a := ⟨fun i j p q hp hq he => h.1 i j p q (by rw [List.getElem?_append_left (List.getElem?_eq_some_iff.mp hp).1]; exact hp) (by rw [List.getElem?_append_left (List.getElem?_eq_some_iff.mp hq).1]; exact hq) he, fun k q hq => h.2 k q (by rw [List.getElem?_append_left (List.getElem?_eq_some_iff.mp hq).1]; exact hq)⟩
theorem D_app2 {A : Nat → Prop} {a b : va_W} (h : va_D A (a ++ b)) : va_D A b := ⟨fun i j p q hp hq he => by have := h.1 (a.length + i) (a.length + j) p q (by rw [List.getElem?_append_right (Nat.le_add_right _ _)]; simpa using hp) (by rw [List.getElem?_append_right (Nat.le_add_right _ _)]; simpa using hq) he; omega, fun k q hq => h.2 (a.length + k) q (by rw [List.getElem?_append_right (Nat.le_add_right _ _)]; simpa using hq)⟩
theorem P_app1 {D : va_G} {a b : va_W} {H : Heap} (h : va_P D vwCl (a ++ b) H) : va_P D vwCl a H := fun k q hq => h k q (by rw [List.getElem?_append_left (List.getElem?_eq_some_iff.mp hq).1]; exact hq)
theorem P_app2 {D : va_G} {a b : va_W} {H : Heap} (h : va_P D vwCl (a ++ b) H) : va_P D vwCl b H := fun k q hq => h (a.length + k) q (by rw [List.getElem?_append_right (Nat.le_add_right _ _)]; simpa using hq)
theorem apart_of {A : Nat → Prop} {G1 G2 : Gx} {sh1 sh2 : List ShE} {S1 S2 : St} (h : va_D A (pic_ G1 sh1 S1 ++ pic_ G2 sh2 S2)) : ∀ q, A_ G1 sh1 q → ¬ A_ G2 sh2 q := by
  rintro q ⟨i, hi, rfl⟩ ⟨j, hj, he⟩
  have h1 := pic_get (G := G1) (S := S1) (List.getElem?_eq_getElem hi)
  have h2 := pic_get (G := G2) (S := S2) (List.getElem?_eq_getElem hj)
  have hl : (pic_ G1 sh1 S1).length = sh1.length := by simp [pic_]
  have := h.1 i ((pic_ G1 sh1 S1).length + j) _ _ (by rw [List.getElem?_append_left (by rw [hl]; exact hi)]; exact h1) (by rw [List.getElem?_append_right (Nat.le_add_right _ _)]; simpa using h2) he
  omega
def tIX : List (List Int32) := [[0, 0, 0, 0, 0, 0, 0, 0, 0, 0, 0, 0, 0, 0], [4, 4, 0, 0], [], [0, 0, 0], [], [4, 4, 0, 0], [], [4, 4, 0, 0], [], [4, 4, 0, 0], [], [4, 4, 0, 0], [], [4, 4, 0, 0], [], [4, 4, 0, 0], [], [4, 4, 0, 0], [], [4, 4, 0, 0], [], [0, 0, 0, 0, 0, 0], [], [], [], [], [], [0, 0, 0, 0, 0, 0, 0, 0, 0, 0, 0, 0, 0, 0], [], [], [], [], [], [], [], [], [], [0, 0, 0, 0, 0], [], [], [], [], [0, 0, 0, 0, 0, 0, 0, 0, 0, 0, 0], [], [], [], [], [], [], [0, 0, 0, 0, 0, 0, 0], [], [], [], [], [], [], [0, 0, 0, 0, 0, 0], [], [], [], [], [0, 0, 0, 0, 0, 0, 0], [0, 0, 0, 0, 0, 5, 0, 0, 0, 0], [], [], [], [], [], [0, 0, 0, 0, 0, 5, 0, 0, 0, 0], [], [], [], [], [], [], [(-1), 0, 0], [], [(-1), 0, 0], [], [(-1), 0, 0], [], [(-1), 0, 0], []]
def tAX : List (Nat → Int32) := [fun _ => 0, fun _ => 0, (fun _ => 0), fun _ => 0, fun _ => 0, fun _ => 0, (fun _ => 0), fun _ => 0, (fun _ => 0), fun _ => 0, (fun _ => 0), fun _ => 0, (fun _ => 0), fun _ => 0, (fun _ => 0), fun _ => 0, (fun _ => 0), fun _ => 0, (fun _ => 0), fun _ => 0, (fun _ => 0), fun _ => 0, (fun _ => 0), (fun _ => 0), (fun _ => 0), (fun _ => 0), (fun _ => 0), fun _ => 0, fun _ => 0, (fun _ => 0), (fun _ => 0), (fun _ => 0), (fun _ => 0), (fun _ => 0), (fun _ => 0), (fun _ => 0), fun _ => 0, fun _ => 0, (fun _ => 0), (fun _ => 0), (fun _ => 0), (fun _ => 0), fun _ => 0, (fun _ => 0), (fun _ => 0), (fun _ => 0), (fun _ => 0), (fun _ => 0), (fun _ => 0), fun _ => 0, (fun _ => 0), (fun _ => 0), (fun _ => 0), (fun _ => 0), (fun _ => 0), (fun _ => 0), fun _ => 0, (fun _ => 0), (fun _ => 0), (fun _ => 0), (fun _ => 0), fun _ => 0, fun _ => 0, (upd (upd (upd (upd (upd (upd (upd (upd (fun _ => 0) 0 1800) 1 1800) 2 1800) 3 1800) 4 1800) 5 1800) 6 1800) 7 1800), (upd (upd (upd (upd (upd (upd (upd (upd (fun _ => 0) 0 2000) 1 2000) 2 2000) 3 2000) 4 2000) 5 2000) 6 2000) 7 2000), (upd (upd (upd (upd (upd (upd (upd (upd (fun _ => 0) 0 0) 1 0) 2 0) 3 0) 4 0) 5 0) 6 0) 7 0), (upd (upd (upd (upd (upd (upd (upd (upd (fun _ => 0) 0 0) 1 0) 2 0) 3 0) 4 0) 5 0) 6 0) 7 0), (upd (upd (upd (upd (upd (upd (upd (upd (fun _ => 0) 0 (-4)) 1 (-4)) 2 (-4)) 3 (-4)) 4 (-4)) 5 (-4)) 6 (-4)) 7 (-4)), fun _ => 0, (upd (upd (upd (upd (upd (upd (upd (upd (fun _ => 0) 0 1800) 1 1800) 2 1800) 3 1800) 4 1800) 5 1800) 6 1800) 7 1800), (upd (upd (upd (upd (upd (upd (upd (upd (fun _ => 0) 0 2000) 1 2000) 2 2000) 3 2000) 4 2000) 5 2000) 6 2000) 7 2000), (upd (upd (upd (upd (upd (upd (upd (upd (fun _ => 0) 0 0) 1 0) 2 0) 3 0) 4 0) 5 0) 6 0) 7 0), (upd (upd (upd (upd (upd (upd (upd (upd (fun _ => 0) 0 0) 1 0) 2 0) 3 0) 4 0) 5 0) 6 0) 7 0), (upd (upd (upd (upd (upd (upd (upd (upd (fun _ => 0) 0 (-4)) 1 (-4)) 2 (-4)) 3 (-4)) 4 (-4)) 5 (-4)) 6 (-4)) 7 (-4)), fun _ => 0, fun _ => 0, (fun _ => 0), fun _ => 0, (fun _ => 0), fun _ => 0, (fun _ => 0), fun _ => 0, (fun _ => 0)]
def tRX : List (List Nat) := [[1, 3, 21, 27, 36, 0, 37, 42, 49, 56, 61, 62, 68, 74], [0, 0, 0, 2], [], [4, 0, 0], [], [0, 0, 0, 6], [], [0, 0, 0, 8], [], [0, 0, 0, 10], [], [0, 0, 0, 12], [], [0, 0, 0, 14], [], [0, 0, 0, 16], [], [0, 0, 0, 18], [], [0, 0, 0, 20], [], [22, 23, 24, 25, 26, 0], [], [], [], [], [], [1, 21, 28, 0, 29, 30, 31, 32, 33, 34, 35, 0, 0, 0], [], [], [], [], [], [], [], [], [], [38, 39, 40, 41, 0], [], [], [], [], [37, 21, 43, 44, 45, 0, 46, 47, 48, 0, 0], [], [], [], [], [], [], [50, 51, 52, 53, 54, 55, 0], [], [], [], [], [], [], [57, 0, 58, 59, 60, 0], [], [], [], [], [56, 0, 0, 0, 0, 0, 0], [63, 64, 65, 66, 67, 0, 0, 0, 0, 0], [], [], [], [], [], [69, 70, 71, 72, 73, 0, 0, 0, 0, 0], [], [], [], [], [], [], [0, 0, 76], [], [0, 0, 78], [], [0, 0, 80], [], [0, 0, 82], []]
def X0_ : St := (fun k j => (tIX.getD k []).getD j 0, fun _ _ => 0, fun k => tAX.getD k (fun _ => 0), fun _ _ => 0, fun k j => (tRX.getD k []).getD j 0)
def tIM : List (List Int32) := [[4, 4, 0, 0, 0, 0, 0, 0, 0, 0, 0, 0, 0, 0, 0, 0, 0, 0, 0, 0, 0, 0, 0, 0, 0, 0, 0, 0, 0, 0, 0, 0, 0, 0, 0, 0, 0, 0, 0, 0, 0, 0, 0, 0, 0, 0, 5, 0, 0, 0, 0, 0, 0, (-4), 0, 0, 0, 0, 0, 0, 0, 0, 0, 0, 0, 0, 0], [], [], [], [], [], [], [], [], [], [], [], [], [], [], [], [], [], [], [], [], [], [], [], [], [], [], [], [], [], [], [], [], [], [], [], [], [], [], [], [], []]
def tAM : List (Nat → Int32) := [fun _ => 0, (fun _ => 0), (fun _ => 0), (fun _ => 0), (fun _ => 0), (fun _ => 0), (fun _ => 0), (fun _ => 0), (fun _ => 0), (fun _ => 0), (fun _ => 0), (fun _ => 0), (fun _ => 0), (fun _ => 0), (fun _ => 0), (fun _ => 0), (fun _ => 0), (fun _ => 0), (fun _ => 0), (fun _ => 0), (fun _ => 0), (fun _ => 0), (fun _ => 0), (fun _ => 0), (fun _ => 0), (fun _ => 0), (fun _ => 0), (fun _ => 0), (fun _ => 0), (upd (upd (upd (upd (upd (upd (upd (upd (fun _ => 0) 0 1800) 1 1800) 2 1800) 3 1800) 4 1800) 5 1800) 6 1800) 7 1800), (upd (upd (upd (upd (upd (upd (upd (upd (fun _ => 0) 0 2000) 1 2000) 2 2000) 3 2000) 4 2000) 5 2000) 6 2000) 7 2000), (upd (upd (upd (upd (upd (upd (upd (upd (fun _ => 0) 0 0) 1 0) 2 0) 3 0) 4 0) 5 0) 6 0) 7 0), (upd (upd (upd (upd (upd (upd (upd (upd (fun _ => 0) 0 0) 1 0) 2 0) 3 0) 4 0) 5 0) 6 0) 7 0), (upd (upd (upd (upd (upd (upd (upd (upd (fun _ => 0) 0 (-4)) 1 (-4)) 2 (-4)) 3 (-4)) 4 (-4)) 5 (-4)) 6 (-4)) 7 (-4)), (upd (upd (upd (upd (upd (upd (upd (upd (fun _ => 0) 0 (-4)) 1 (-4)) 2 (-4)) 3 (-4)) 4 (-4)) 5 (-4)) 6 (-4)) 7 (-4)), (upd (upd (upd (upd (upd (upd (upd (upd (fun _ => 0) 0 (-4)) 1 (-4)) 2 (-4)) 3 (-4)) 4 (-4)) 5 (-4)) 6 (-4)) 7 (-4)), (upd (upd (upd (upd (upd (upd (upd (upd (fun _ => 0) 0 0) 1 0) 2 0) 3 0) 4 0) 5 0) 6 0) 7 0), (upd (upd (upd (upd (upd (upd (upd (upd (fun _ => 0) 0 (-4)) 1 (-4)) 2 (-4)) 3 (-4)) 4 (-4)) 5 (-4)) 6 (-4)) 7 (-4)), (upd (upd (upd (upd (upd (upd (upd (upd (fun _ => 0) 0 (-4)) 1 (-4)) 2 (-4)) 3 (-4)) 4 (-4)) 5 (-4)) 6 (-4)) 7 (-4)), (upd (upd (upd (upd (fun _ => 0) 0 (-4)) 1 (-4)) 2 (-4)) 3 (-4)), (fun _ => 0), (fun _ => 0)]
def tRM : List (List Nat) := [[0, 0, 1, 2, 0, 3, 0, 4, 5, 0, 6, 7, 8, 9, 10, 11, 12, 0, 13, 14, 15, 16, 0, 17, 18, 19, 20, 21, 0, 22, 23, 24, 25, 26, 27, 28, 0, 0, 0, 0, 0, 0, 0, 29, 30, 31, 0, 32, 33, 0, 34, 35, 36, 0, 37, 38, 0, 0, 0, 0, 0, 0, 0, 0, 39, 40, 41], [], [], [], [], [], [], [], [], [], [], [], [], [], [], [], [], [], [], [], [], [], [], [], [], [], [], [], [], [], [], [], [], [], [], [], [], [], [], [], [], []]
def M0_ : St := (fun k j => (tIM.getD k []).getD j 0, fun _ _ => 0, fun k => tAM.getD k (fun _ => 0), fun _ _ => 0, fun k j => (tRM.getD k []).getD j 0)
