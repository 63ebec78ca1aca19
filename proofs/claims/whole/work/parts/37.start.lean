set_option maxRecDepth 100000 in
set_option maxHeartbeats 8000000 in
theorem whole_open {Rel : St → St → Prop} (hs : Sims Rel) (h0 : Rel X0_ M0_) {p : Program} {e : Env} {s : State} {m : MethodId} {below : List Frame} {meth : Method} {c : Code} (l : Launch) {b L : Nat} {xs : Nat → Int32} (hL : L ≤ 4096) (C0 : lw_At p s m meth c b L xs) : W p l e room_1 s m #[Value.ref b] below meth c s.heap [] 0 0 (lw_Z below #[Value.ref b] s) (entryFrame m ([Value.ref b] : List Value).toArray 4) := by
  obtain ⟨kS, kV, z1, z2, z3, z4⟩ := start_ext C0
  obtain ⟨hx, hb, hr, hml, hown, hts0, hX, hbl, hlocks, hgv⟩ := id C0
  have hts : ∀ w ∈ TB_, w.before #[Value.ref b] s = true := fun w hw => hts0 w (List.mem_filter.mp hw).1
  have hN : Nx_ s := ⟨fun q hq => va_Nw.of rfl (hts0 _ (nest_in q hq)), va_AO.of (hts0 _ ao_Board), va_AO.of (hts0 _ ao_Sheet)⟩
  have hA : ∀ q : Nat, s.heap.size ≤ q → (fun q : Nat => s.heap.size ≤ q) q := fun _ h => h
  obtain ⟨d0, i0, u0⟩ := u_known (C := RX0) (T := TX0) (N := 3) (n := 3) hts tbX0 (hts _ kin_X0)
  obtain ⟨d1, i1, u1⟩ := u_known (C := RX1) (T := TX1) (N := 4) (n := 4) hts tbX1 (hts _ kin_X1)
  obtain ⟨d2, i2, u2⟩ := u_known (C := RX2) (T := TX2) (N := 7) (n := 7) hts tbX2 (hts _ kin_X2)
  obtain ⟨d3, i3, u3⟩ := u_known (C := RX3) (T := TX3) (N := 10) (n := 10) hts tbX3 (hts _ kin_X3)
  obtain ⟨d4, i4, u4⟩ := u_known (C := RX4) (T := TX4) (N := 11) (n := 11) hts tbX4 (hts _ kin_X4)
  obtain ⟨d5, i5, u5⟩ := u_known (C := RX5) (T := TX5) (N := 7) (n := 7) hts tbX5 (hts _ kin_X5)
  obtain ⟨d6, i6, u6⟩ := u_known (C := RX6) (T := TX6) (N := 14) (n := 14) hts tbX6 (hts _ kin_X6)
  obtain ⟨d7, i7, u7⟩ := u_known (C := RX7) (T := TX7) (N := 6) (n := 6) hts tbX7 (hts _ kin_X7)
  obtain ⟨d8, i8, u8⟩ := u_known (C := RX8) (T := TX8) (N := 3) (n := 3) hts tbX8 (hts _ kin_X8)
  obtain ⟨d9, i9, u9⟩ := u_known (C := RX9) (T := TX9) (N := 5) (n := 5) hts tbX9 (hts _ kin_X9)
  obtain ⟨d10, i10, u10⟩ := u_known (C := RX10) (T := TX10) (N := 6) (n := 6) hts tbX10 (hts _ kin_X10)
  obtain ⟨d11, i11, u11⟩ := u_known (C := RX11) (T := TX11) (N := 14) (n := 14) hts tbX11 (hts _ kin_X11)
  obtain ⟨d12, i12, u12⟩ := u_known (C := RX12) (T := TX12) (N := 67) (n := 67) hts tbX12 (hts _ kin_X12)
  obtain ⟨dC, dI, hKc⟩ : ∃ (dC : Nat → ClassId) (dI : Nat → Nat → Nat), ∀ (k : Nat) (q : vw_C), vwCl[k]? = some q → u_Kn s q.1 q.2.1 q.2.2 (dC k) (dI k) := by
    refine ⟨fun k => [d0, d1, d2, d3, d4, d5, d6, d7, d8, d9, d10, d11, d12].getD k d0, fun k => [i0, i1, i2, i3, i4, i5, i6, i7, i8, i9, i10, i11, i12].getD k i0, ?_⟩
    intro k q hq
    match k, hq with
    | 0, hq => cases hq; exact u0
    | 1, hq => cases hq; exact u1
    | 2, hq => cases hq; exact u2
    | 3, hq => cases hq; exact u3
    | 4, hq => cases hq; exact u4
    | 5, hq => cases hq; exact u5
    | 6, hq => cases hq; exact u6
    | 7, hq => cases hq; exact u7
    | 8, hq => cases hq; exact u8
    | 9, hq => cases hq; exact u9
    | 10, hq => cases hq; exact u10
    | 11, hq => cases hq; exact u11
    | 12, hq => cases hq; exact u12
    | k + 13, hq => simp [vwCl] at hq
  obtain ⟨cI, kI, coI, eI1, eI2, eI3⟩ := Cond.arrayClass_spec (hts _ karr_int)
  obtain ⟨cZ, kZ, coZ, eZ1, eZ2, eZ3⟩ := Cond.arrayClass_spec (hts _ karr_boolean)
  obtain ⟨cJ, kJ, coJ, eJ1, eJ2, eJ3⟩ := Cond.arrayClass_spec (hts _ karr_long)
  have hK3 : va_K (dC, dI) vwCl [(cI, .int), (cZ, .boolean), (cJ, .long)] s := by
    refine ⟨hKc, fun k q hq => ?_⟩
    match k, hq with
    | 0, hq => cases hq; exact ⟨fun n z => ⟨fun k h => (by cases h), kI, eI2, coI, eI3⟩, eI1⟩
    | 1, hq => cases hq; exact ⟨fun n z => ⟨fun k h => (by cases h), kZ, eZ2, coZ, eZ3⟩, eZ1⟩
    | 2, hq => cases hq; exact ⟨fun n z => ⟨fun k h => (by cases h), kJ, eJ2, coJ, eJ3⟩, eJ1⟩
    | k + 3, hq => simp at hq
  have hS : va_S (fun q : Nat => s.heap.size ≤ q) s.heap s.heap [] := va_S.rf
  have hP : va_P (dC, dI) vwCl [] s.heap := fun k q h => by simp at h
  have hD : va_D (fun q : Nat => s.heap.size ≤ q) [] := ⟨fun i j p q h => by simp at h, fun k q h => by simp at h⟩
  have hl := lv_entry ([.ref b]) (n := 4) (Nat.le_of_ble_eq_true rfl)
  rw [lg_entry_eq]
  generalize (lg_sl ([.ref b]) ++ List.replicate (4 - (lg_sl ([.ref b])).length) Slot.unset).toArray = ls at hl ⊢
  have hl : lv_has ls 4 [(0, .ref b)] := hl
  refine va_new (ci := 11) (fs := [.null, .null, .null, .null, .null, .int 0, .null, .null, .null, .null, .null, .null, .null, .null]) hx hb hts tbX11 tyX11 tyX11_ok hown (hts _ kcl_L_7) (hts _ kin_X11) (hts _ kini_X11) hK3 hP hD hS hA rfl dv_X11 (Nat.le_of_ble_eq_true rfl) (Nat.le_of_ble_eq_true rfl) dL_law_0 (fun x0 H hP hD hS => ?_)
  have hP : va_P (dC, dI) vwCl [(x0, .inr (11, [.null, .null, .null, .null, .null, .int 0, .null, .null, .null, .null, .null, .null, .null, .null]))] H := hP
  have hD : va_D (fun q : Nat => s.heap.size ≤ q) [(x0, .inr (11, [.null, .null, .null, .null, .null, .int 0, .null, .null, .null, .null, .null, .null, .null, .null]))] := hD
  refine lv_dup hx hb dL_law_3 rfl ?_
  refine W_callk (D := (dC, dI)) (wp := []) (wc := [(x0, .inr (11, [.null, .null, .null, .null, .null, .int 0, .null, .null, .null, .null, .null, .null, .null, .null]))]) (va_runI (As := []) (rest := [.ref x0]) ⟨hx, hb, hml, hown, hts⟩ (kX11_init (l := l) (D := (dC, dI)) (h0 := x0) (cI := cI) (cZ := cZ) (cJ := cJ) (tys := [(cI, .int), (cZ, .boolean), (cJ, .long)]) rfl rfl rfl rfl H.size) ⟨callB_of 0 hts (TB_in cb_X11_init.1) rfl rfl rfl (hts _ cb_X11_init.2.1) (hts _ kml_L_9) cb_X11_init.2.2.2.2 ⟨by simp only [rk_, room_1]; omega, by simp only [rk_, room_1]; omega⟩, rfl, hts _ kim2_X11_init⟩ ⟨blind_k, fun U hU hW => ⟨rfl, by rw [hU], by rw [hU]; exact hP, va_K.moved hW.alike hK3, hD.weaken (fun _ _ _ _ => trivial), hN.warm hW⟩⟩ rfl rfl hl.1 rfl (lv_room (Nat.le_of_ble_eq_true rfl)) dL_law_4 ⟨Nat.le_of_ble_eq_true rfl, Nat.le_of_ble_eq_true rfl⟩) hP hD hS (fun q hq => ?_) (fun w1 ty Ha locsa hp hK5 hPa hDa hSa => ?_)
  · rcases hq with ⟨k, ee, hk⟩ | hk
    · exact hD.2 k _ hk
    · exact Nat.le_trans hS.1 hk
  obtain ⟨xa, cB, cS, hwX, hx0, hty⟩ := hp
  have trX := trX_ (l := l) (D := (dC, dI)) (kS := kS) (kV := kV) (cZ := cZ) (cJ := cJ) (cB := cB) (cS := cS) (cI := cI) (a := xa) hwX
  clear hwX
  subst hx0
  subst hty
  have hP : va_P (dC, dI) vwCl w1 Ha := hPa
  have hD : va_D (fun q : Nat => s.heap.size ≤ q) w1 := hDa
  have hS := hSa
  have hK5 : va_K (dC, dI) vwCl [(cI, .int), (cZ, .boolean), (cJ, .long), (cB, .object "BurlPipes$Board"), (cS, .object "BurlPipes$Sheet")] s := hK5
  refine lv_astore_n (lv' := [(1, .ref (xa 0)), (0, .ref b)]) hx hb dL_law_7 rfl hl (by decide) rfl (fun ls hl => ?_)
  refine va_new (ci := 12) (fs := [.int 0, .int 0, .null, .null, .int 0, .null, .int 0, .null, .null, .int 0, .null, .null, .null, .null, .null, .null, .null, .int 0, .null, .null, .null, .null, .int 0, .null, .null, .null, .null, .null, .int 0, .null, .null, .null, .null, .null, .null, .null, .int 0, .int 0, .int 0, .int 0, .int 0, .int 0, .int 0, .null, .null, .null, .int 0, .null, .null, .int 0, .null, .null, .null, .int 0, .null, .null, .int 0, .int 0, .int 0, .int 0, .int 0, .int 0, .int 0, .int 0, .null, .null, .null]) hx hb hts tbX12 tyX12 tyX12_ok hown (hts _ kcl_L_10) (hts _ kin_X12) (hts _ kini_X12) hK5 hP hD hS hA rfl dv_X12 (Nat.le_of_ble_eq_true rfl) (Nat.le_of_ble_eq_true rfl) dL_law_8 (fun y0 H hP hD hS => ?_)
  refine lv_dup hx hb dL_law_11 rfl ?_
  refine W_callk (D := (dC, dI)) (wp := w1) (wc := [(y0, .inr (12, [.int 0, .int 0, .null, .null, .int 0, .null, .int 0, .null, .null, .int 0, .null, .null, .null, .null, .null, .null, .null, .int 0, .null, .null, .null, .null, .int 0, .null, .null, .null, .null, .null, .int 0, .null, .null, .null, .null, .null, .null, .null, .int 0, .int 0, .int 0, .int 0, .int 0, .int 0, .int 0, .null, .null, .null, .int 0, .null, .null, .int 0, .null, .null, .null, .int 0, .null, .null, .int 0, .int 0, .int 0, .int 0, .int 0, .int 0, .int 0, .int 0, .null, .null, .null]))]) (va_runI (As := []) (rest := [.ref y0]) ⟨hx, hb, hml, hown, hts⟩ (kX12_init (l := l) (D := (dC, dI)) (h0 := y0) (cI := cI) (cZ := cZ) (cJ := cJ) (tys := [(cI, .int), (cZ, .boolean), (cJ, .long), (cB, .object "BurlPipes$Board"), (cS, .object "BurlPipes$Sheet")]) rfl rfl rfl H.size) ⟨callB_of 0 hts (TB_in cb_X12_init.1) rfl rfl rfl (hts _ cb_X12_init.2.1) (hts _ kml_L_12) cb_X12_init.2.2.2.2 ⟨by simp only [rk_, room_1]; omega, by simp only [rk_, room_1]; omega⟩, rfl, hts _ kim2_X12_init⟩ ⟨blind_k, fun U hU hW => ⟨rfl, by rw [hU], by rw [hU]; exact P_app2 hP, va_K.moved hW.alike hK5, (D_app2 hD).weaken (fun _ _ _ _ => trivial), hN.warm hW⟩⟩ rfl rfl hl.1 rfl (lv_room (Nat.le_of_ble_eq_true rfl)) dL_law_12 ⟨Nat.le_of_ble_eq_true rfl, Nat.le_of_ble_eq_true rfl⟩) hP hD hS (fun q hq => ?_) (fun w2 ty Hb locsb hp hK6 hPb hDb hSb => ?_)
  · rcases hq with ⟨k, ee, hk⟩ | hk
    · exact (D_app2 hD).2 k _ hk
    · exact Nat.le_trans hS.1 hk
  obtain ⟨ya, hwM, hy0, hty⟩ := hp
  have trM := trM_ (l := l) (D := (dC, dI)) (kS := kS) (kV := kV) (cZ := cZ) (cJ := cJ) (cB := cB) (cS := cS) (cI := cI) (a := ya) hwM
  clear hwM
  subst hy0
  subst hty
  have hP := hPb
  have hD := hDb
  have hS := hSb
  refine lv_astore_n (lv' := [(2, .ref (ya 0)), (1, .ref (xa 0)), (0, .ref b)]) hx hb dL_law_15 rfl hl (by decide) rfl (fun ls hl => ?_)
  refine lv_iconst (v := 0) hx hb dL_law_16 (by decide) ?_
  refine lv_istore_n (lv' := [(3, .int 0), (2, .ref (ya 0)), (1, .ref (xa 0)), (0, .ref b)]) hx hb dL_law_17 rfl hl (by decide) rfl (fun ls hl => ?_)
  refine W.widen (k := 600000) (n := 7302250) (Nat.le_of_ble_eq_true rfl) (Nat.le_of_ble_eq_true rfl) ?_
  obtain ⟨G1, eG1⟩ : ∃ G : Gx, G = (l, (dC, dI), xa, (fun t => [cI, cZ, cJ, cB, cS].getD t 0), kS, kV) := ⟨_, rfl⟩
  obtain ⟨G2, eG2⟩ : ∃ G : Gx, G = (l, (dC, dI), ya, (fun t => [cI, cZ, cJ, cB, cS].getD t 0), kS, kV) := ⟨_, rfl⟩
  rw [← eG1] at trX
  rw [← eG2] at trM
  have hP1 := trX.1 _ (P_app1 hP)
  have hP2 := trM.1 _ (P_app2 hP)
  have hDD := D_tr trX trM hD
  have hd1 : D_ G1 = (dC, dI) := by rw [eG1]
  have hd2 : D_ G2 = (dC, dI) := by rw [eG2]
  have C : Lx_ p s m meth c b L xs G1 G2 := by
    have sb1 := sub_of (D_app1 hDD)
    have sb2 := sub_of (D_app2 hDD)
    refine ⟨C0, by rw [eG1, eG2], inj_of (D_app1 hDD), inj_of (D_app2 hDD), sb1, sb2, apart_of hDD, ?_, ?_, ⟨hN.1, ?_, ?_, z3.narrow sb1, ?_⟩, ⟨hN.1, ?_, ?_, z3.narrow sb2, ?_⟩⟩
    · rw [eG1]; exact hK5
    · rw [eG2]; exact hK5
    · rw [eG1]; exact z1
    · have := z2.narrow sb1; rw [eG1] at this ⊢; exact this
    · rcases z4 with h | ⟨t, h⟩
      · exact Or.inl (h.narrow sb1)
      · exact Or.inr ⟨t, h.narrow sb1⟩
    · rw [eG2]; exact z1
    · have := z2.narrow sb2; rw [eG2] at this ⊢; exact this
    · rcases z4 with h | ⟨t, h⟩
      · exact Or.inl (h.narrow sb2)
      · exact Or.inr ⟨t, h.narrow sb2⟩
  have hl2 : lv_has ls 4 [(0, .ref b), (1, .ref (ad_ G1 0)), (2, .ref (ad_ G2 0)), (3, .int 0)] := by
    rw [eG1, eG2]; exact lv_sub hl [3, 2, 1, 0] rfl
  have fin := law_loop (e := e) (below := below) hL C hs (L + 1) 0 0 X0_ M0_ (by omega) (by omega) rfl h0 Hb locsb ls (by rw [hd1]; exact hP1) (by rw [hd2]; exact hP2) hS hl2
  have hl1 : l_ G1 = l := by rw [eG1]
  rw [hl1] at fin
  exact fin
