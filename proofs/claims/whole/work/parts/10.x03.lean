set_option maxRecDepth 100000 in
set_option maxHeartbeats 4000000 in
theorem tX4_makeRoom {G : Gx} : ∀ (n : Nat) {post : Option Value → St → Prop} {S : St} {v1 : Int32} {v2 : Int32} {o : (Int32 × St)}, fX4_makeRoom n S v1 v2 = some o → post (some (.int o.1)) o.2 → Rn G shX n yX4_makeRoom cX4_makeRoom 5 (some .boolean) 0 [(0, .ref (ad_ G 42)), (1, .int v1), (2, .int v2)] [] S post := by
  intro n
  induction n with
  | zero => intro post S v1 v2 o h; rw [fX4_makeRoom] at h; cases h
  | succ n ih0 =>
    intro post S v1 v2 o h hp
    have ih : ∀ {S : St} {v1 : Int32} {v2 : Int32} {o : (Int32 × St)}, fX4_makeRoom n S v1 v2 = some o → MR_ G shX n yX4_makeRoom cX4_makeRoom 5 (some .boolean) [.ref (ad_ G 42), .int v1, .int v2] S (PI_ o.1 o.2) := fun {S} {v1} {v2} {o} h => MR_of cb_X4_makeRoom (Nat.le_of_ble_eq_true rfl) [(0, .ref (ad_ G 42)), (1, .int v1), (2, .int v2)] rfl (ih0 h ⟨rfl, rfl⟩)
    rw [fX4_makeRoom] at h
    refine r_iload_n 2 dX4_makeRoom_0 rfl rfl ?_
    refine r_bipush (v := 8) dX4_makeRoom_1 rfl ?_
    refine r_icmp_lt 8 dX4_makeRoom_3 (by decide) (fun c36 => ?_) (fun c36 => ?_)
    · rw [if_pos c36] at h
      refine r_iconst (v := 0) dX4_makeRoom_8 rfl ?_
      refine r_istore_n (i := 3) [(0, .ref (ad_ G 42)), (1, .int v1), (2, .int v2), (3, .int 0)] [1, 2, 3, 0] dX4_makeRoom_9 rfl (by decide) rfl ?_
      have key : ∀ ex, lp (fun w21 : Int32 × St => bX4_makeRoom_10 (fX4_makeRoom n) v1 v2 w21.1 w21.2) 5000 (0, S) = some ex → (fun ex : (Int32 × St) ⊕ (Int32 × St) => match ex with | .inl u34 => Rn G shX (n + 1) yX4_makeRoom cX4_makeRoom 5 (some .boolean) 94 [(0, .ref (ad_ G 42)), (1, .int v1), (3, .int u34.1)] [] u34.2 post | .inr rr => post (some (.int rr.1)) rr.2) ex → Rn G shX (n + 1) yX4_makeRoom cX4_makeRoom 5 (some .boolean) 10 [(0, .ref (ad_ G 42)), (1, .int v1), (2, .int v2), (3, .int 0)] [] S post := by
        intro ex hl hx
        refine lp_rule (body := (fun w21 : Int32 × St => bX4_makeRoom_10 (fX4_makeRoom n) v1 v2 w21.1 w21.2)) (R := (fun w21 : Int32 × St => Rn G shX (n + 1) yX4_makeRoom cX4_makeRoom 5 (some .boolean) 10 [(0, .ref (ad_ G 42)), (1, .int v1), (2, .int v2), (3, .int w21.1)] [] w21.2 post)) (X := (fun ex : (Int32 × St) ⊕ (Int32 × St) => match ex with | .inl u34 => Rn G shX (n + 1) yX4_makeRoom cX4_makeRoom 5 (some .boolean) 94 [(0, .ref (ad_ G 42)), (1, .int v1), (3, .int u34.1)] [] u34.2 post | .inr rr => post (some (.int rr.1)) rr.2)) ?_ 5000 (0, S) ex hl hx
        intro w21 oo h hB hX
        obtain ⟨v22, S23⟩ := w21
        replace h : bX4_makeRoom_10 (fX4_makeRoom n) v1 v2 v22 S23 = some oo := h
        unfold bX4_makeRoom_10 at h
        show Rn G shX (n + 1) yX4_makeRoom cX4_makeRoom 5 (some .boolean) 10 [(0, .ref (ad_ G 42)), (1, .int v1), (2, .int v2), (3, .int v22)] [] S23 post
        refine r_iload_n 3 dX4_makeRoom_10 rfl rfl ?_
        refine r_aload_n 0 dX4_makeRoom_11 rfl rfl ?_
        refine r_getC (k := 42) (j := 0) (r := 37) sX_42 rfl fl_X4_40 dX4_makeRoom_12 ?_
        refine r_getI (k := 37) (j := 4) sX_37 rfl fl_X4_78 dX4_makeRoom_15 ?_
        refine r_icmp_ge 109 dX4_makeRoom_18 (by decide) (fun c33 => ?_) (fun c33 => ?_)
        · rw [if_pos c33] at h
          refine r_iconst (v := 0) dX4_makeRoom_109 rfl ?_
          obtain rfl := Option.some.inj h
          exact r_zreturn rfl (by decide) dX4_makeRoom_110 (hX (.inr (0, S23)) rfl)
        · rw [if_neg c33] at h
          refine r_iconst (v := 1) dX4_makeRoom_21 rfl ?_
          refine r_iload_n 3 dX4_makeRoom_22 rfl rfl ?_
          refine r_ishl dX4_makeRoom_23 ?_
          refine r_istore (i := 4) [(0, .ref (ad_ G 42)), (1, .int v1), (2, .int v2), (3, .int v22), (4, .int ((1 : Int32) <<< ((v22 : Int32) &&& 31)))] [1, 2, 3, 4, 0] dX4_makeRoom_24 (by decide) rfl ?_
          refine r_aload_n 0 dX4_makeRoom_26 rfl rfl ?_
          refine r_getC (k := 42) (j := 7) (r := 47) sX_42 rfl fl_X4_28 dX4_makeRoom_27 ?_
          refine r_iload_n 1 dX4_makeRoom_30 rfl rfl ?_
          obtain ⟨x24, hx24, h⟩ := b1_some h
          refine r_iaload sX_47 hx24 dX4_makeRoom_31 ?_
          refine r_aload_n 0 dX4_makeRoom_32 rfl rfl ?_
          refine r_getI (k := 42) (j := 9) sX_42 rfl fl_X4_34 dX4_makeRoom_33 ?_
          refine r_iand dX4_makeRoom_36 ?_
          refine r_iload 4 dX4_makeRoom_37 rfl ?_
          refine r_iand dX4_makeRoom_39 ?_
          refine r_if_eq 103 dX4_makeRoom_40 (by decide) (fun c32 => ?_) (fun c32 => ?_)
          · rw [if_pos c32] at h
            refine r_iinc (v := v22 + 1) [(0, .ref (ad_ G 42)), (1, .int v1), (2, .int v2), (3, .int (v22 + 1)), (4, .int ((1 : Int32) <<< ((v22 : Int32) &&& 31)))] 3 [1, 2, 3, 0, 4] dX4_makeRoom_103 rfl rfl (by decide) rfl ?_
            refine r_goto 10 dX4_makeRoom_106 (by decide) ?_
            refine r_sub [(0, .ref (ad_ G 42)), (1, .int v1), (2, .int v2), (3, .int (v22 + 1))] [0, 1, 2, 3] rfl ?_
            obtain rfl := Option.some.inj h
            exact hB (v22 + 1, S23) rfl
          · rw [if_neg c32] at h
            refine r_aload_n 0 dX4_makeRoom_43 rfl rfl ?_
            refine r_getI (k := 42) (j := 10) sX_42 rfl fl_X4_37 dX4_makeRoom_44 ?_
            refine r_iload 4 dX4_makeRoom_47 rfl ?_
            refine r_iand dX4_makeRoom_49 ?_
            refine r_if_eq 56 dX4_makeRoom_50 (by decide) (fun c31 => ?_) (fun c31 => ?_)
            · rw [if_pos c31] at h
              refine r_aload_n 0 dX4_makeRoom_56 rfl rfl ?_
              refine r_dup dX4_makeRoom_57 rfl ?_
              refine r_getI (k := 42) (j := 10) sX_42 rfl fl_X4_37 dX4_makeRoom_58 ?_
              refine r_iload 4 dX4_makeRoom_61 rfl ?_
              refine r_ior dX4_makeRoom_63 ?_
              obtain ⟨S25, hS25, h⟩ := b1_some h
              refine r_setI (k := 42) (j := 10) sX_42 rfl pf_X4_37 hS25 dX4_makeRoom_64 ?_
              refine r_aload_n 0 dX4_makeRoom_67 rfl rfl ?_
              refine r_getC (k := 42) (j := 8) (r := 48) sX_42 rfl fl_X4_31 dX4_makeRoom_68 ?_
              refine r_iload_n 3 dX4_makeRoom_71 rfl rfl ?_
              obtain ⟨x26, hx26, h⟩ := b1_some h
              refine r_iaload sX_48 hx26 dX4_makeRoom_72 ?_
              refine r_bipush (v := (-4)) dX4_makeRoom_73 rfl ?_
              refine r_icmp_eq 94 dX4_makeRoom_75 (by decide) (fun c30 => ?_) (fun c30 => ?_)
              · rw [if_pos c30] at h
                refine r_sub [(0, .ref (ad_ G 42)), (1, .int v1), (3, .int v22)] [0, 1, 3] rfl ?_
                obtain rfl := Option.some.inj h
                exact hX (.inl (v22, S25)) rfl
              · rw [if_neg c30] at h
                refine r_aload_n 0 dX4_makeRoom_78 rfl rfl ?_
                refine r_aload_n 0 dX4_makeRoom_79 rfl rfl ?_
                refine r_getC (k := 42) (j := 8) (r := 48) sX_42 rfl fl_X4_31 dX4_makeRoom_80 ?_
                refine r_iload_n 3 dX4_makeRoom_83 rfl rfl ?_
                obtain ⟨x27, hx27, h⟩ := b1_some h
                refine r_iaload sX_48 hx27 dX4_makeRoom_84 ?_
                refine r_iload_n 2 dX4_makeRoom_85 rfl rfl ?_
                refine r_iconst (v := 1) dX4_makeRoom_86 rfl ?_
                refine r_iadd dX4_makeRoom_87 ?_
                obtain ⟨q28, hq28, h⟩ := b1_some h
                refine r_callVi (k := 42) (rest := []) (by omega) (ih  hq28) sX_42 rfl rfl cb_X4_makeRoom ml_X4_91 im_X4_makeRoom se_X4_makeRoom rfl rfl (Nat.le_of_ble_eq_true rfl) dX4_makeRoom_88 ?_
                refine r_if_eq 103 dX4_makeRoom_91 (by decide) (fun c29 => ?_) (fun c29 => ?_)
                · rw [if_pos c29] at h
                  refine r_iinc (v := v22 + 1) [(0, .ref (ad_ G 42)), (1, .int v1), (2, .int v2), (3, .int (v22 + 1)), (4, .int ((1 : Int32) <<< ((v22 : Int32) &&& 31)))] 3 [1, 2, 3, 0, 4] dX4_makeRoom_103 rfl rfl (by decide) rfl ?_
                  refine r_goto 10 dX4_makeRoom_106 (by decide) ?_
                  refine r_sub [(0, .ref (ad_ G 42)), (1, .int v1), (2, .int v2), (3, .int (v22 + 1))] [0, 1, 2, 3] rfl ?_
                  obtain rfl := Option.some.inj h
                  exact hB (v22 + 1, q28.2) rfl
                · rw [if_neg c29] at h
                  refine r_sub [(0, .ref (ad_ G 42)), (1, .int v1), (3, .int v22)] [0, 1, 3] rfl ?_
                  obtain rfl := Option.some.inj h
                  exact hX (.inl (v22, q28.2)) rfl
            · rw [if_neg c31] at h
              refine r_goto 103 dX4_makeRoom_53 (by decide) ?_
              refine r_iinc (v := v22 + 1) [(0, .ref (ad_ G 42)), (1, .int v1), (2, .int v2), (3, .int (v22 + 1)), (4, .int ((1 : Int32) <<< ((v22 : Int32) &&& 31)))] 3 [1, 2, 3, 0, 4] dX4_makeRoom_103 rfl rfl (by decide) rfl ?_
              refine r_goto 10 dX4_makeRoom_106 (by decide) ?_
              refine r_sub [(0, .ref (ad_ G 42)), (1, .int v1), (2, .int v2), (3, .int (v22 + 1))] [0, 1, 2, 3] rfl ?_
              obtain rfl := Option.some.inj h
              exact hB (v22 + 1, S23) rfl
      rcases bs_some h with ⟨u34, hu34, h⟩ | ⟨rr, hu34, h⟩
      · refine key _ hu34 ?_
        show Rn G shX (n + 1) yX4_makeRoom cX4_makeRoom 5 (some .boolean) 94 [(0, .ref (ad_ G 42)), (1, .int v1), (3, .int u34.1)] [] u34.2 post
        refine r_aload_n 0 dX4_makeRoom_94 rfl rfl ?_
        refine r_getC (k := 42) (j := 8) (r := 48) sX_42 rfl fl_X4_31 dX4_makeRoom_95 ?_
        refine r_iload_n 2 dX4_makeRoom_98 rfl rfl ?_
        refine r_iload_n 1 dX4_makeRoom_99 rfl rfl ?_
        obtain ⟨S35, hS35, h⟩ := b1_some h
        refine r_iastore sX_48 hS35 dX4_makeRoom_100 ?_
        refine r_iconst (v := 1) dX4_makeRoom_101 rfl ?_
        obtain rfl := Option.some.inj h
        exact r_zreturn rfl (by decide) dX4_makeRoom_102 (hp)
      · refine key _ hu34 ?_
        show post (some (.int rr.1)) rr.2
        obtain rfl := Option.some.inj h
        exact hp
    · rw [if_neg c36] at h
      refine r_iconst (v := 0) dX4_makeRoom_6 rfl ?_
      obtain rfl := Option.some.inj h
      exact r_zreturn rfl (by decide) dX4_makeRoom_7 (hp)
theorem mX4_makeRoom {G : Gx} {n : Nat} {S : St} {v1 : Int32} {v2 : Int32} {o : (Int32 × St)} (h : fX4_makeRoom n S v1 v2 = some o) : MR_ G shX n yX4_makeRoom cX4_makeRoom 5 (some .boolean) [.ref (ad_ G 42), .int v1, .int v2] S (PI_ o.1 o.2) := MR_of cb_X4_makeRoom (Nat.le_of_ble_eq_true rfl) [(0, .ref (ad_ G 42)), (1, .int v1), (2, .int v2)] rfl (tX4_makeRoom n h ⟨rfl, rfl⟩)
set_option maxRecDepth 100000 in
set_option maxHeartbeats 4000000 in
theorem tX4_bestSum {G : Gx} {post : Option Value → St → Prop} {S : St} {v1 : Int32} {v2 : Int32} {o : (Int32 × St)}  (h : fX4_bestSum S v1 v2 = some o) (hp : post (some (.int o.1)) o.2) : Rn G shX 10 yX4_bestSum cX4_bestSum 7 (some .int) 0 [(0, .ref (ad_ G 42)), (1, .int v1), (2, .int v2)] [] S post := by
  unfold fX4_bestSum at h
  refine r_iconst (v := 0) dX4_bestSum_0 rfl ?_
  refine r_istore_n (i := 3) [(0, .ref (ad_ G 42)), (1, .int v1), (2, .int v2), (3, .int 0)] [1, 2, 3, 0] dX4_bestSum_1 rfl (by decide) rfl ?_
  have key : ∀ ex, lp (fun w21 : Int32 × St => bX4_bestSum_2  w21.1 w21.2) 5000 (0, S) = some ex → (fun u26 : St => Rn G shX 10 yX4_bestSum cX4_bestSum 7 (some .int) 22 [(0, .ref (ad_ G 42)), (1, .int v1), (2, .int v2)] [] u26 post) ex → Rn G shX 10 yX4_bestSum cX4_bestSum 7 (some .int) 2 [(0, .ref (ad_ G 42)), (1, .int v1), (2, .int v2), (3, .int 0)] [] S post := by
    intro ex hl hx
    refine lp_rule (body := (fun w21 : Int32 × St => bX4_bestSum_2  w21.1 w21.2)) (R := (fun w21 : Int32 × St => Rn G shX 10 yX4_bestSum cX4_bestSum 7 (some .int) 2 [(0, .ref (ad_ G 42)), (1, .int v1), (2, .int v2), (3, .int w21.1)] [] w21.2 post)) (X := (fun u26 : St => Rn G shX 10 yX4_bestSum cX4_bestSum 7 (some .int) 22 [(0, .ref (ad_ G 42)), (1, .int v1), (2, .int v2)] [] u26 post)) ?_ 5000 (0, S) ex hl hx
    intro w21 oo h hB hX
    obtain ⟨v22, S23⟩ := w21
    replace h : bX4_bestSum_2  v22 S23 = some oo := h
    unfold bX4_bestSum_2 at h
    show Rn G shX 10 yX4_bestSum cX4_bestSum 7 (some .int) 2 [(0, .ref (ad_ G 42)), (1, .int v1), (2, .int v2), (3, .int v22)] [] S23 post
    refine r_iload_n 3 dX4_bestSum_2 rfl rfl ?_
    refine r_bipush (v := 12) dX4_bestSum_3 rfl ?_
    refine r_icmp_ge 22 dX4_bestSum_5 (by decide) (fun c25 => ?_) (fun c25 => ?_)
    · rw [if_pos c25] at h
      refine r_sub [(0, .ref (ad_ G 42)), (1, .int v1), (2, .int v2)] [0, 1, 2] rfl ?_
      obtain rfl := Option.some.inj h
      exact hX S23 rfl
    · rw [if_neg c25] at h
      refine r_aload_n 0 dX4_bestSum_8 rfl rfl ?_
      refine r_getC (k := 42) (j := 8) (r := 48) sX_42 rfl fl_X4_31 dX4_bestSum_9 ?_
      refine r_iload_n 3 dX4_bestSum_12 rfl rfl ?_
      refine r_bipush (v := (-4)) dX4_bestSum_13 rfl ?_
      obtain ⟨S24, hS24, h⟩ := b1_some h
      refine r_iastore sX_48 hS24 dX4_bestSum_15 ?_
      refine r_iinc (v := v22 + 1) [(0, .ref (ad_ G 42)), (1, .int v1), (2, .int v2), (3, .int (v22 + 1))] 3 [1, 2, 3, 0] dX4_bestSum_16 rfl rfl (by decide) rfl ?_
      refine r_goto 2 dX4_bestSum_19 (by decide) ?_
      obtain rfl := Option.some.inj h
      exact hB (v22 + 1, S24) rfl
  obtain ⟨u26, hu26, h⟩ := b1_some h
  refine key u26 hu26 ?_
  show Rn G shX 10 yX4_bestSum cX4_bestSum 7 (some .int) 22 [(0, .ref (ad_ G 42)), (1, .int v1), (2, .int v2)] [] u26 post
  refine r_aload_n 0 dX4_bestSum_22 rfl rfl ?_
  refine r_iload_n 2 dX4_bestSum_23 rfl rfl ?_
  obtain ⟨S27, hS27, h⟩ := b1_some h
  refine r_setI (k := 42) (j := 9) sX_42 rfl pf_X4_34 hS27 dX4_bestSum_24 ?_
  refine r_iconst (v := 0) dX4_bestSum_27 rfl ?_
  refine r_istore_n (i := 3) [(0, .ref (ad_ G 42)), (1, .int v1), (2, .int v2), (3, .int 0)] [1, 2, 3, 0] dX4_bestSum_28 rfl (by decide) rfl ?_
  refine r_iload_n 1 dX4_bestSum_29 rfl rfl ?_
  refine r_istore (i := 4) [(0, .ref (ad_ G 42)), (1, .int v1), (2, .int v2), (3, .int 0), (4, .int v1)] [1, 2, 3, 4, 0] dX4_bestSum_30 (by decide) rfl ?_
  refine r_iconst (v := 0) dX4_bestSum_32 rfl ?_
  refine r_istore (i := 5) [(0, .ref (ad_ G 42)), (1, .int v1), (2, .int v2), (3, .int 0), (4, .int v1), (5, .int 0)] [1, 2, 3, 4, 5, 0] dX4_bestSum_33 (by decide) rfl ?_
  refine r_sub [(0, .ref (ad_ G 42)), (3, .int 0), (4, .int v1), (5, .int 0)] [0, 3, 4, 5] rfl ?_
  have key : ∀ ex, lp (fun w28 : Int32 × Int32 × Int32 × St => bX4_bestSum_35  w28.1 w28.2.1 w28.2.2.1 w28.2.2.2) 5000 (0, v1, 0, S27) = some ex → (fun u41 : Int32 × St => Rn G shX 10 yX4_bestSum cX4_bestSum 7 (some .int) 97 [(3, .int u41.1)] [] u41.2 post) ex → Rn G shX 10 yX4_bestSum cX4_bestSum 7 (some .int) 35 [(0, .ref (ad_ G 42)), (3, .int 0), (4, .int v1), (5, .int 0)] [] S27 post := by
    intro ex hl hx
    refine lp_rule (body := (fun w28 : Int32 × Int32 × Int32 × St => bX4_bestSum_35  w28.1 w28.2.1 w28.2.2.1 w28.2.2.2)) (R := (fun w28 : Int32 × Int32 × Int32 × St => Rn G shX 10 yX4_bestSum cX4_bestSum 7 (some .int) 35 [(0, .ref (ad_ G 42)), (3, .int w28.1), (4, .int w28.2.1), (5, .int w28.2.2.1)] [] w28.2.2.2 post)) (X := (fun u41 : Int32 × St => Rn G shX 10 yX4_bestSum cX4_bestSum 7 (some .int) 97 [(3, .int u41.1)] [] u41.2 post)) ?_ 5000 (0, v1, 0, S27) ex hl hx
    intro w28 oo h hB hX
    obtain ⟨v29, v30, v31, S32⟩ := w28
    replace h : bX4_bestSum_35  v29 v30 v31 S32 = some oo := h
    unfold bX4_bestSum_35 at h
    show Rn G shX 10 yX4_bestSum cX4_bestSum 7 (some .int) 35 [(0, .ref (ad_ G 42)), (3, .int v29), (4, .int v30), (5, .int v31)] [] S32 post
    refine r_iload 3 dX4_bestSum_35 rfl ?_
    refine r_bipush (v := 8) dX4_bestSum_37 rfl ?_
    refine r_icmp_ge 97 dX4_bestSum_39 (by decide) (fun c40 => ?_) (fun c40 => ?_)
    · rw [if_pos c40] at h
      refine r_sub [(3, .int v29)] [1] rfl ?_
      obtain rfl := Option.some.inj h
      exact hX (v29, S32) rfl
    · rw [if_neg c40] at h
      refine r_iload 2 dX4_bestSum_42 rfl ?_
      refine r_if_eq 97 dX4_bestSum_44 (by decide) (fun c39 => ?_) (fun c39 => ?_)
      · rw [if_pos c39] at h
        refine r_sub [(3, .int v29)] [1] rfl ?_
        obtain rfl := Option.some.inj h
        exact hX (v29, S32) rfl
      · rw [if_neg c39] at h
        refine r_aload_n 0 dX4_bestSum_47 rfl rfl ?_
        refine r_iload 2 dX4_bestSum_48 rfl ?_
        obtain ⟨x33, hx33, h⟩ := b1_some h
        refine r_callVi (k := 42) (rest := []) (by omega) (mX4_bestPaid hx33) sX_42 rfl rfl cb_X4_bestPaid ml_X4_87 im_X4_bestPaid se_X4_bestPaid rfl rfl (Nat.le_of_ble_eq_true rfl) dX4_bestSum_50 ?_
        refine r_istore (i := 6) [(0, .ref (ad_ G 42)), (3, .int v29), (4, .int v30), (5, .int v31), (6, .int x33)] [1, 2, 3, 4, 0] dX4_bestSum_53 (by decide) rfl ?_
        refine r_iload 2 dX4_bestSum_55 rfl ?_
        refine r_iconst (v := 1) dX4_bestSum_57 rfl ?_
        refine r_iload 4 dX4_bestSum_58 rfl ?_
        refine r_ishl dX4_bestSum_60 ?_
        refine r_iconst (v := (-1)) dX4_bestSum_61 rfl ?_
        refine r_ixor dX4_bestSum_62 ?_
        refine r_iand dX4_bestSum_63 ?_
        obtain ⟨x34, hx34, h⟩ := b1_some h
        rw [Option.some.inj hx34]
        refine r_istore (i := 4) [(0, .ref (ad_ G 42)), (3, .int v29), (4, .int x34), (5, .int v31), (6, .int x33)] [1, 2, 0, 3, 4] dX4_bestSum_64 (by decide) rfl ?_
        refine r_aload_n 0 dX4_bestSum_66 rfl rfl ?_
        refine r_iconst (v := 0) dX4_bestSum_67 rfl ?_
        obtain ⟨S35, hS35, h⟩ := b1_some h
        refine r_setI (k := 42) (j := 10) sX_42 rfl pf_X4_37 hS35 dX4_bestSum_68 ?_
        refine r_aload_n 0 dX4_bestSum_71 rfl rfl ?_
        refine r_iload 4 dX4_bestSum_72 rfl ?_
        refine r_iconst (v := 0) dX4_bestSum_74 rfl ?_
        obtain ⟨q36, hq36, h⟩ := b1_some h
        refine r_callVi (k := 42) (rest := []) (by omega) (mX4_makeRoom hq36) sX_42 rfl rfl cb_X4_makeRoom ml_X4_91 im_X4_makeRoom se_X4_makeRoom rfl rfl (Nat.le_of_ble_eq_true rfl) dX4_bestSum_75 ?_
        refine r_if_eq 91 dX4_bestSum_78 (by decide) (fun c38 => ?_) (fun c38 => ?_)
        · rw [if_pos c38] at h
          refine r_iinc (v := v31 + 1) [(0, .ref (ad_ G 42)), (3, .int v29), (4, .int x34), (5, .int (v31 + 1)), (6, .int x33)] 3 [1, 2, 3, 0, 4] dX4_bestSum_91 rfl rfl (by decide) rfl ?_
          refine r_goto 35 dX4_bestSum_94 (by decide) ?_
          refine r_sub [(0, .ref (ad_ G 42)), (3, .int v29), (4, .int x34), (5, .int (v31 + 1))] [0, 1, 2, 3] rfl ?_
          obtain rfl := Option.some.inj h
          exact hB (v29, x34, v31 + 1, q36.2) rfl
        · rw [if_neg c38] at h
          refine r_iload_n 1 dX4_bestSum_81 rfl rfl ?_
          refine r_aload_n 0 dX4_bestSum_82 rfl rfl ?_
          refine r_getC (k := 42) (j := 4) (r := 45) sX_42 rfl fl_X4_18 dX4_bestSum_83 ?_
          refine r_iload 4 dX4_bestSum_86 rfl ?_
          obtain ⟨x37, hx37, h⟩ := b1_some h
          refine r_iaload sX_45 hx37 dX4_bestSum_88 ?_
          refine r_iadd dX4_bestSum_89 ?_
          refine r_istore_n (i := 3) [(0, .ref (ad_ G 42)), (3, .int (v29 + x37)), (4, .int x34), (5, .int v31), (6, .int x33)] [1, 0, 2, 3, 4] dX4_bestSum_90 rfl (by decide) rfl ?_
          refine r_iinc (v := v31 + 1) [(0, .ref (ad_ G 42)), (3, .int (v29 + x37)), (4, .int x34), (5, .int (v31 + 1)), (6, .int x33)] 3 [1, 2, 3, 0, 4] dX4_bestSum_91 rfl rfl (by decide) rfl ?_
          refine r_goto 35 dX4_bestSum_94 (by decide) ?_
          refine r_sub [(0, .ref (ad_ G 42)), (3, .int (v29 + x37)), (4, .int x34), (5, .int (v31 + 1))] [0, 1, 2, 3] rfl ?_
          obtain rfl := Option.some.inj h
          exact hB (v29 + x37, x34, v31 + 1, q36.2) rfl
  obtain ⟨u41, hu41, h⟩ := b1_some h
  refine key u41 hu41 ?_
  show Rn G shX 10 yX4_bestSum cX4_bestSum 7 (some .int) 97 [(3, .int u41.1)] [] u41.2 post
  refine r_iload_n 0 dX4_bestSum_97 rfl rfl ?_
  obtain rfl := Option.some.inj h
  exact r_ireturn rfl dX4_bestSum_98 (hp)
theorem mX4_bestSum {G : Gx} {S : St} {v1 : Int32} {v2 : Int32} {o : (Int32 × St)}  (h : fX4_bestSum S v1 v2 = some o) : MR_ G shX 10 yX4_bestSum cX4_bestSum 7 (some .int) [.ref (ad_ G 42), .int v1, .int v2] S (PI_ o.1 o.2) := MR_of cb_X4_bestSum (Nat.le_of_ble_eq_true rfl) [(0, .ref (ad_ G 42)), (1, .int v1), (2, .int v2)] rfl (tX4_bestSum  h ⟨rfl, rfl⟩)
set_option maxRecDepth 100000 in
set_option maxHeartbeats 4000000 in
theorem tX4_leastBlock {G : Gx} {post : Option Value → St → Prop} {S : St} {v1 : Int32} {v2 : Int32} {v3 : Int32} {v4 : Int32} {o : (Int32 × St)}  (h : fX4_leastBlock S v1 v2 v3 v4 = some o) (hp : post (some (.int o.1)) o.2) : Rn G shX 11 yX4_leastBlock cX4_leastBlock 7 (some .int) 0 [(0, .ref (ad_ G 42)), (1, .int v1), (2, .int v2), (3, .int v3), (4, .int v4)] [] S post := by
  unfold fX4_leastBlock at h
  refine r_iconst (v := 0) dX4_leastBlock_0 rfl ?_
  refine r_istore (i := 5) [(0, .ref (ad_ G 42)), (1, .int v1), (2, .int v2), (3, .int v3), (4, .int v4), (5, .int 0)] [1, 2, 3, 4, 5, 0] dX4_leastBlock_1 (by decide) rfl ?_
  have key : ∀ ex, lp (fun w21 : Int32 × St => bX4_leastBlock_3 v1 v2 v3 v4 w21.1 w21.2) 5000 (0, S) = some ex → (fun ex : (St) ⊕ (Int32 × St) => match ex with | .inl u32 => Rn G shX 11 yX4_leastBlock cX4_leastBlock 7 (some .int) 77 [] [] u32 post | .inr rr => post (some (.int rr.1)) rr.2) ex → Rn G shX 11 yX4_leastBlock cX4_leastBlock 7 (some .int) 3 [(0, .ref (ad_ G 42)), (1, .int v1), (2, .int v2), (3, .int v3), (4, .int v4), (5, .int 0)] [] S post := by
    intro ex hl hx
    refine lp_rule (body := (fun w21 : Int32 × St => bX4_leastBlock_3 v1 v2 v3 v4 w21.1 w21.2)) (R := (fun w21 : Int32 × St => Rn G shX 11 yX4_leastBlock cX4_leastBlock 7 (some .int) 3 [(0, .ref (ad_ G 42)), (1, .int v1), (2, .int v2), (3, .int v3), (4, .int v4), (5, .int w21.1)] [] w21.2 post)) (X := (fun ex : (St) ⊕ (Int32 × St) => match ex with | .inl u32 => Rn G shX 11 yX4_leastBlock cX4_leastBlock 7 (some .int) 77 [] [] u32 post | .inr rr => post (some (.int rr.1)) rr.2)) ?_ 5000 (0, S) ex hl hx
    intro w21 oo h hB hX
    obtain ⟨v22, S23⟩ := w21
    replace h : bX4_leastBlock_3 v1 v2 v3 v4 v22 S23 = some oo := h
    unfold bX4_leastBlock_3 at h
    show Rn G shX 11 yX4_leastBlock cX4_leastBlock 7 (some .int) 3 [(0, .ref (ad_ G 42)), (1, .int v1), (2, .int v2), (3, .int v3), (4, .int v4), (5, .int v22)] [] S23 post
    refine r_iload 5 dX4_leastBlock_3 rfl ?_
    refine r_aload_n 0 dX4_leastBlock_5 rfl rfl ?_
    refine r_getC (k := 42) (j := 0) (r := 37) sX_42 rfl fl_X4_40 dX4_leastBlock_6 ?_
    refine r_getI (k := 37) (j := 4) sX_37 rfl fl_X4_78 dX4_leastBlock_9 ?_
    refine r_icmp_ge 77 dX4_leastBlock_12 (by decide) (fun c31 => ?_) (fun c31 => ?_)
    · rw [if_pos c31] at h
      refine r_sub [] [] rfl ?_
      obtain rfl := Option.some.inj h
      exact hX (.inl S23) rfl
    · rw [if_neg c31] at h
      refine r_aload_n 0 dX4_leastBlock_15 rfl rfl ?_
      refine r_getC (k := 42) (j := 7) (r := 47) sX_42 rfl fl_X4_28 dX4_leastBlock_16 ?_
      refine r_iload_n 1 dX4_leastBlock_19 rfl rfl ?_
      obtain ⟨x24, hx24, h⟩ := b1_some h
      refine r_iaload sX_47 hx24 dX4_leastBlock_20 ?_
      refine r_iload_n 3 dX4_leastBlock_21 rfl rfl ?_
      refine r_iand dX4_leastBlock_22 ?_
      refine r_iconst (v := 1) dX4_leastBlock_23 rfl ?_
      refine r_iload 5 dX4_leastBlock_24 rfl ?_
      refine r_ishl dX4_leastBlock_26 ?_
      refine r_iand dX4_leastBlock_27 ?_
      obtain ⟨w25, hw25, h⟩ := b1_some h
      have hJ : Rn G shX 11 yX4_leastBlock cX4_leastBlock 7 (some .int) 36 [(0, .ref (ad_ G 42)), (1, .int v1), (2, .int v2), (3, .int v3), (4, .int v4), (5, .int v22)] [.int w25] S23 post := by
        refine r_istore (i := 6) [(0, .ref (ad_ G 42)), (1, .int v1), (2, .int v2), (3, .int v3), (4, .int v4), (5, .int v22), (6, .int w25)] [1, 2, 3, 4, 5, 6, 0] dX4_leastBlock_36 (by decide) rfl ?_
        refine r_iload 6 dX4_leastBlock_38 rfl ?_
        refine r_if_eq 71 dX4_leastBlock_40 (by decide) (fun c29 => ?_) (fun c29 => ?_)
        · rw [if_pos c29] at h
          refine r_iinc (v := v22 + 1) [(0, .ref (ad_ G 42)), (1, .int v1), (2, .int v2), (3, .int v3), (4, .int v4), (5, .int (v22 + 1)), (6, .int w25)] 5 [1, 2, 3, 4, 5, 0, 6] dX4_leastBlock_71 rfl rfl (by decide) rfl ?_
          refine r_goto 3 dX4_leastBlock_74 (by decide) ?_
          refine r_sub [(0, .ref (ad_ G 42)), (1, .int v1), (2, .int v2), (3, .int v3), (4, .int v4), (5, .int (v22 + 1))] [0, 1, 2, 3, 4, 5] rfl ?_
          obtain rfl := Option.some.inj h
          exact hB (v22 + 1, S23) rfl
        · rw [if_neg c29] at h
          refine r_aload_n 0 dX4_leastBlock_43 rfl rfl ?_
          refine r_getC (k := 42) (j := 4) (r := 45) sX_42 rfl fl_X4_18 dX4_leastBlock_44 ?_
          refine r_iload_n 1 dX4_leastBlock_47 rfl rfl ?_
          obtain ⟨x26, hx26, h⟩ := b1_some h
          refine r_iaload sX_45 hx26 dX4_leastBlock_48 ?_
          refine r_aload_n 0 dX4_leastBlock_49 rfl rfl ?_
          refine r_iload_n 2 dX4_leastBlock_50 rfl rfl ?_
          refine r_iload_n 3 dX4_leastBlock_51 rfl rfl ?_
          refine r_iconst (v := 1) dX4_leastBlock_52 rfl ?_
          refine r_iload 5 dX4_leastBlock_53 rfl ?_
          refine r_ishl dX4_leastBlock_55 ?_
          refine r_iconst (v := (-1)) dX4_leastBlock_56 rfl ?_
          refine r_ixor dX4_leastBlock_57 ?_
          refine r_iand dX4_leastBlock_58 ?_
          obtain ⟨q27, hq27, h⟩ := b1_some h
          refine r_callVi (k := 42) (rest := [.int x26]) (by omega) (mX4_bestSum hq27) sX_42 rfl rfl cb_X4_bestSum ml_X4_79 im_X4_bestSum se_X4_bestSum rfl rfl (Nat.le_of_ble_eq_true rfl) dX4_leastBlock_59 ?_
          refine r_iadd dX4_leastBlock_62 ?_
          refine r_iload 4 dX4_leastBlock_63 rfl ?_
          refine r_icmp_ne 71 dX4_leastBlock_65 (by decide) (fun c28 => ?_) (fun c28 => ?_)
          · rw [if_neg c28] at h
            refine r_iinc (v := v22 + 1) [(0, .ref (ad_ G 42)), (1, .int v1), (2, .int v2), (3, .int v3), (4, .int v4), (5, .int (v22 + 1)), (6, .int w25)] 5 [1, 2, 3, 4, 5, 0, 6] dX4_leastBlock_71 rfl rfl (by decide) rfl ?_
            refine r_goto 3 dX4_leastBlock_74 (by decide) ?_
            refine r_sub [(0, .ref (ad_ G 42)), (1, .int v1), (2, .int v2), (3, .int v3), (4, .int v4), (5, .int (v22 + 1))] [0, 1, 2, 3, 4, 5] rfl ?_
            obtain rfl := Option.some.inj h
            exact hB (v22 + 1, q27.2) rfl
          · rw [if_pos c28] at h
            refine r_iload 5 dX4_leastBlock_68 rfl ?_
            obtain rfl := Option.some.inj h
            exact r_ireturn rfl dX4_leastBlock_70 (hX (.inr (v22, q27.2)) rfl)
      clear h
      replace h := hw25
      refine r_if_eq 35 dX4_leastBlock_28 (by decide) (fun c30 => ?_) (fun c30 => ?_)
      · rw [if_pos c30] at h
        refine r_iconst (v := 0) dX4_leastBlock_35 rfl ?_
        obtain rfl := Option.some.inj h
        exact hJ
      · rw [if_neg c30] at h
        refine r_iconst (v := 1) dX4_leastBlock_31 rfl ?_
        refine r_goto 36 dX4_leastBlock_32 (by decide) ?_
        obtain rfl := Option.some.inj h
        exact hJ
  rcases bs_some h with ⟨u32, hu32, h⟩ | ⟨rr, hu32, h⟩
  · refine key _ hu32 ?_
    show Rn G shX 11 yX4_leastBlock cX4_leastBlock 7 (some .int) 77 [] [] u32 post
    refine r_bipush (v := (-4)) dX4_leastBlock_77 rfl ?_
    obtain rfl := Option.some.inj h
    exact r_ireturn rfl dX4_leastBlock_79 (hp)
  · refine key _ hu32 ?_
    show post (some (.int rr.1)) rr.2
    obtain rfl := Option.some.inj h
    exact hp
theorem mX4_leastBlock {G : Gx} {S : St} {v1 : Int32} {v2 : Int32} {v3 : Int32} {v4 : Int32} {o : (Int32 × St)}  (h : fX4_leastBlock S v1 v2 v3 v4 = some o) : MR_ G shX 11 yX4_leastBlock cX4_leastBlock 7 (some .int) [.ref (ad_ G 42), .int v1, .int v2, .int v3, .int v4] S (PI_ o.1 o.2) := MR_of cb_X4_leastBlock (Nat.le_of_ble_eq_true rfl) [(0, .ref (ad_ G 42)), (1, .int v1), (2, .int v2), (3, .int v3), (4, .int v4)] rfl (tX4_leastBlock  h ⟨rfl, rfl⟩)
set_option maxRecDepth 100000 in
set_option maxHeartbeats 4000000 in
theorem tX4_fill {G : Gx} {post : Option Value → St → Prop} {S : St} {o : (Int32 × St)}  (h : fX4_fill S = some o) (hp : post (some (.int o.1)) o.2) : Rn G shX 12 yX4_fill cX4_fill 6 (some .int) 0 [(0, .ref (ad_ G 42))] [] S post := by
  unfold fX4_fill at h
  refine r_aload_n 0 dX4_fill_0 rfl rfl ?_
  obtain ⟨S21, hS21, h⟩ := b1_some h
  refine r_callVv (k := 42) (rest := []) (by omega) (mX4_findSuiting hS21) sX_42 rfl rfl cb_X4_findSuiting ml_X4_75 im_X4_findSuiting se_X4_findSuiting rfl rfl (Nat.le_of_ble_eq_true rfl) dX4_fill_1 ?_
  refine r_iconst (v := 1) dX4_fill_4 rfl ?_
  refine r_aload_n 0 dX4_fill_5 rfl rfl ?_
  refine r_getI (k := 42) (j := 5) sX_42 rfl fl_X4_21 dX4_fill_6 ?_
  refine r_ishl dX4_fill_9 ?_
  refine r_iconst (v := 1) dX4_fill_10 rfl ?_
  refine r_isub dX4_fill_11 ?_
  obtain ⟨x22, hx22, h⟩ := b1_some h
  rw [Option.some.inj hx22]
  refine r_istore_n (i := 1) [(0, .ref (ad_ G 42)), (1, .int x22)] [1, 0] dX4_fill_12 rfl (by decide) rfl ?_
  refine r_iconst (v := 1) dX4_fill_13 rfl ?_
  refine r_aload_n 0 dX4_fill_14 rfl rfl ?_
  refine r_getC (k := 42) (j := 0) (r := 37) sX_42 rfl fl_X4_40 dX4_fill_15 ?_
  refine r_getI (k := 37) (j := 4) sX_37 rfl fl_X4_78 dX4_fill_18 ?_
  refine r_ishl dX4_fill_21 ?_
  refine r_iconst (v := 1) dX4_fill_22 rfl ?_
  refine r_isub dX4_fill_23 ?_
  obtain ⟨x23, hx23, h⟩ := b1_some h
  rw [Option.some.inj hx23]
  refine r_istore_n (i := 2) [(0, .ref (ad_ G 42)), (1, .int x22), (2, .int x23)] [1, 2, 0] dX4_fill_24 rfl (by decide) rfl ?_
  refine r_aload_n 0 dX4_fill_25 rfl rfl ?_
  refine r_iload_n 1 dX4_fill_26 rfl rfl ?_
  refine r_iload_n 2 dX4_fill_27 rfl rfl ?_
  obtain ⟨q24, hq24, h⟩ := b1_some h
  refine r_callVi (k := 42) (rest := []) (by omega) (mX4_bestSum hq24) sX_42 rfl rfl cb_X4_bestSum ml_X4_79 im_X4_bestSum se_X4_bestSum rfl rfl (Nat.le_of_ble_eq_true rfl) dX4_fill_28 ?_
  refine r_istore_n (i := 3) [(0, .ref (ad_ G 42)), (1, .int x22), (2, .int x23), (3, .int q24.1)] [1, 2, 3, 0] dX4_fill_31 rfl (by decide) rfl ?_
  refine r_iload_n 3 dX4_fill_32 rfl rfl ?_
  refine r_istore (i := 4) [(0, .ref (ad_ G 42)), (1, .int x22), (2, .int x23), (3, .int q24.1), (4, .int q24.1)] [1, 2, 3, 4, 0] dX4_fill_33 (by decide) rfl ?_
  refine r_iconst (v := 0) dX4_fill_35 rfl ?_
  refine r_istore (i := 5) [(0, .ref (ad_ G 42)), (1, .int x22), (2, .int x23), (3, .int q24.1), (4, .int q24.1), (5, .int 0)] [1, 2, 3, 4, 5, 0] dX4_fill_36 (by decide) rfl ?_
  have key : ∀ ex, lp (fun w25 : Int32 × Int32 × Int32 × Int32 × St => bX4_fill_38  w25.1 w25.2.1 w25.2.2.1 w25.2.2.2.1 w25.2.2.2.2) 5000 (x22, x23, q24.1, 0, q24.2) = some ex → (fun u40 : St => Rn G shX 12 yX4_fill cX4_fill 6 (some .int) 117 [(3, .int q24.1)] [] u40 post) ex → Rn G shX 12 yX4_fill cX4_fill 6 (some .int) 38 [(0, .ref (ad_ G 42)), (1, .int x22), (2, .int x23), (3, .int q24.1), (4, .int q24.1), (5, .int 0)] [] q24.2 post := by
    intro ex hl hx
    refine lp_rule (body := (fun w25 : Int32 × Int32 × Int32 × Int32 × St => bX4_fill_38  w25.1 w25.2.1 w25.2.2.1 w25.2.2.2.1 w25.2.2.2.2)) (R := (fun w25 : Int32 × Int32 × Int32 × Int32 × St => Rn G shX 12 yX4_fill cX4_fill 6 (some .int) 38 [(0, .ref (ad_ G 42)), (1, .int w25.1), (2, .int w25.2.1), (3, .int q24.1), (4, .int w25.2.2.1), (5, .int w25.2.2.2.1)] [] w25.2.2.2.2 post)) (X := (fun u40 : St => Rn G shX 12 yX4_fill cX4_fill 6 (some .int) 117 [(3, .int q24.1)] [] u40 post)) ?_ 5000 (x22, x23, q24.1, 0, q24.2) ex hl hx
    intro w25 oo h hB hX
    obtain ⟨v26, v27, v28, v29, S30⟩ := w25
    replace h : bX4_fill_38  v26 v27 v28 v29 S30 = some oo := h
    unfold bX4_fill_38 at h
    show Rn G shX 12 yX4_fill cX4_fill 6 (some .int) 38 [(0, .ref (ad_ G 42)), (1, .int v26), (2, .int v27), (3, .int q24.1), (4, .int v28), (5, .int v29)] [] S30 post
    refine r_iload 5 dX4_fill_38 rfl ?_
    refine r_aload_n 0 dX4_fill_40 rfl rfl ?_
    refine r_getI (k := 42) (j := 5) sX_42 rfl fl_X4_21 dX4_fill_41 ?_
    refine r_icmp_ge 117 dX4_fill_44 (by decide) (fun c39 => ?_) (fun c39 => ?_)
    · rw [if_pos c39] at h
      refine r_sub [(3, .int q24.1)] [3] rfl ?_
      obtain rfl := Option.some.inj h
      exact hX S30 rfl
    · rw [if_neg c39] at h
      refine r_iload_n 1 dX4_fill_47 rfl rfl ?_
      refine r_iconst (v := 1) dX4_fill_48 rfl ?_
      refine r_iload 5 dX4_fill_49 rfl ?_
      refine r_ishl dX4_fill_51 ?_
      refine r_iconst (v := (-1)) dX4_fill_52 rfl ?_
      refine r_ixor dX4_fill_53 ?_
      refine r_iand dX4_fill_54 ?_
      obtain ⟨x31, hx31, h⟩ := b1_some h
      rw [Option.some.inj hx31]
      refine r_istore_n (i := 1) [(0, .ref (ad_ G 42)), (1, .int x31), (2, .int v27), (3, .int q24.1), (4, .int v28), (5, .int v29)] [1, 0, 2, 3, 4, 5] dX4_fill_55 rfl (by decide) rfl ?_
      refine r_aload_n 0 dX4_fill_56 rfl rfl ?_
      refine r_getC (k := 42) (j := 6) (r := 46) sX_42 rfl fl_X4_25 dX4_fill_57 ?_
      refine r_iload 5 dX4_fill_60 rfl ?_
      refine r_aload_n 0 dX4_fill_62 rfl rfl ?_
      refine r_iload 5 dX4_fill_63 rfl ?_
      refine r_iload_n 1 dX4_fill_65 rfl rfl ?_
      refine r_iload_n 2 dX4_fill_66 rfl rfl ?_
      refine r_iload 4 dX4_fill_67 rfl ?_
      obtain ⟨q32, hq32, h⟩ := b1_some h
      refine r_callVi (k := 42) (rest := [.int v29, .ref (ad_ G 46)]) (by omega) (mX4_leastBlock hq32) sX_42 rfl rfl cb_X4_leastBlock ml_X4_83 im_X4_leastBlock se_X4_leastBlock rfl rfl (Nat.le_of_ble_eq_true rfl) dX4_fill_69 ?_
      obtain ⟨S33, hS33, h⟩ := b1_some h
      refine r_iastore sX_46 hS33 dX4_fill_72 ?_
      refine r_aload_n 0 dX4_fill_73 rfl rfl ?_
      refine r_getC (k := 42) (j := 6) (r := 46) sX_42 rfl fl_X4_25 dX4_fill_74 ?_
      refine r_iload 5 dX4_fill_77 rfl ?_
      obtain ⟨x34, hx34, h⟩ := b1_some h
      refine r_iaload sX_46 hx34 dX4_fill_79 ?_
      refine r_bipush (v := (-4)) dX4_fill_80 rfl ?_
      refine r_icmp_eq 111 dX4_fill_82 (by decide) (fun c38 => ?_) (fun c38 => ?_)
      · rw [if_pos c38] at h
        refine r_iinc (v := v29 + 1) [(0, .ref (ad_ G 42)), (1, .int x31), (2, .int v27), (3, .int q24.1), (4, .int v28), (5, .int (v29 + 1))] 5 [1, 2, 3, 4, 5, 0] dX4_fill_111 rfl rfl (by decide) rfl ?_
        refine r_goto 38 dX4_fill_114 (by decide) ?_
        obtain rfl := Option.some.inj h
        exact hB (x31, v27, v28, v29 + 1, S33) rfl
      · rw [if_neg c38] at h
        refine r_iload_n 2 dX4_fill_85 rfl rfl ?_
        refine r_iconst (v := 1) dX4_fill_86 rfl ?_
        refine r_aload_n 0 dX4_fill_87 rfl rfl ?_
        refine r_getC (k := 42) (j := 6) (r := 46) sX_42 rfl fl_X4_25 dX4_fill_88 ?_
        refine r_iload 5 dX4_fill_91 rfl ?_
        obtain ⟨x35, hx35, h⟩ := b1_some h
        refine r_iaload sX_46 hx35 dX4_fill_93 ?_
        refine r_ishl dX4_fill_94 ?_
        refine r_iconst (v := (-1)) dX4_fill_95 rfl ?_
        refine r_ixor dX4_fill_96 ?_
        refine r_iand dX4_fill_97 ?_
        obtain ⟨x36, hx36, h⟩ := b1_some h
        rw [Option.some.inj hx36]
        refine r_istore_n (i := 2) [(0, .ref (ad_ G 42)), (1, .int x31), (2, .int x36), (3, .int q24.1), (4, .int v28), (5, .int v29)] [1, 2, 0, 3, 4, 5] dX4_fill_98 rfl (by decide) rfl ?_
        refine r_iload 4 dX4_fill_99 rfl ?_
        refine r_aload_n 0 dX4_fill_101 rfl rfl ?_
        refine r_getC (k := 42) (j := 4) (r := 45) sX_42 rfl fl_X4_18 dX4_fill_102 ?_
        refine r_iload 5 dX4_fill_105 rfl ?_
        obtain ⟨x37, hx37, h⟩ := b1_some h
        refine r_iaload sX_45 hx37 dX4_fill_107 ?_
        refine r_isub dX4_fill_108 ?_
        refine r_istore (i := 4) [(0, .ref (ad_ G 42)), (1, .int x31), (2, .int x36), (3, .int q24.1), (4, .int (v28 - x37)), (5, .int v29)] [1, 2, 3, 4, 0, 5] dX4_fill_109 (by decide) rfl ?_
        refine r_iinc (v := v29 + 1) [(0, .ref (ad_ G 42)), (1, .int x31), (2, .int x36), (3, .int q24.1), (4, .int (v28 - x37)), (5, .int (v29 + 1))] 5 [1, 2, 3, 4, 5, 0] dX4_fill_111 rfl rfl (by decide) rfl ?_
        refine r_goto 38 dX4_fill_114 (by decide) ?_
        obtain rfl := Option.some.inj h
        exact hB (x31, x36, v28 - x37, v29 + 1, S33) rfl
  obtain ⟨u40, hu40, h⟩ := b1_some h
  refine key u40 hu40 ?_
  show Rn G shX 12 yX4_fill cX4_fill 6 (some .int) 117 [(3, .int q24.1)] [] u40 post
  refine r_iload_n 0 dX4_fill_117 rfl rfl ?_
  obtain rfl := Option.some.inj h
  exact r_ireturn rfl dX4_fill_118 (hp)
theorem mX4_fill {G : Gx} {S : St} {o : (Int32 × St)}  (h : fX4_fill S = some o) : MR_ G shX 12 yX4_fill cX4_fill 6 (some .int) [.ref (ad_ G 42)] S (PI_ o.1 o.2) := MR_of cb_X4_fill (Nat.le_of_ble_eq_true rfl) [(0, .ref (ad_ G 42))] rfl (tX4_fill  h ⟨rfl, rfl⟩)
set_option maxRecDepth 100000 in
set_option maxHeartbeats 4000000 in
theorem tX4_givenBlocks {G : Gx} {post : Option Value → St → Prop} {S : St} {o : Int32}  (h : fX4_givenBlocks S = some o) (hp : post (some (.int o)) S) : Rn G shX 0 yX4_givenBlocks cX4_givenBlocks 3 (some .int) 0 [(0, .ref (ad_ G 42))] [] S post := by
  unfold fX4_givenBlocks at h
  refine r_iconst (v := 0) dX4_givenBlocks_0 rfl ?_
  refine r_istore_n (i := 1) [(0, .ref (ad_ G 42)), (1, .int 0)] [1, 0] dX4_givenBlocks_1 rfl (by decide) rfl ?_
  refine r_iconst (v := 0) dX4_givenBlocks_2 rfl ?_
  refine r_istore_n (i := 2) [(0, .ref (ad_ G 42)), (1, .int 0), (2, .int 0)] [1, 2, 0] dX4_givenBlocks_3 rfl (by decide) rfl ?_
  have key : ∀ ex, lp (fun w21 : Int32 × Int32 => bX4_givenBlocks_4 S w21.1 w21.2) 5000 (0, 0) = some ex → (fun u29 : Int32 => Rn G shX 0 yX4_givenBlocks cX4_givenBlocks 3 (some .int) 40 [(1, .int u29)] [] S post) ex → Rn G shX 0 yX4_givenBlocks cX4_givenBlocks 3 (some .int) 4 [(0, .ref (ad_ G 42)), (1, .int 0), (2, .int 0)] [] S post := by
    intro ex hl hx
    refine lp_rule (body := (fun w21 : Int32 × Int32 => bX4_givenBlocks_4 S w21.1 w21.2)) (R := (fun w21 : Int32 × Int32 => Rn G shX 0 yX4_givenBlocks cX4_givenBlocks 3 (some .int) 4 [(0, .ref (ad_ G 42)), (1, .int w21.1), (2, .int w21.2)] [] S post)) (X := (fun u29 : Int32 => Rn G shX 0 yX4_givenBlocks cX4_givenBlocks 3 (some .int) 40 [(1, .int u29)] [] S post)) ?_ 5000 (0, 0) ex hl hx
    intro w21 oo h hB hX
    obtain ⟨v22, v23⟩ := w21
    replace h : bX4_givenBlocks_4 S v22 v23 = some oo := h
    unfold bX4_givenBlocks_4 at h
    show Rn G shX 0 yX4_givenBlocks cX4_givenBlocks 3 (some .int) 4 [(0, .ref (ad_ G 42)), (1, .int v22), (2, .int v23)] [] S post
    refine r_iload_n 2 dX4_givenBlocks_4 rfl rfl ?_
    refine r_aload_n 0 dX4_givenBlocks_5 rfl rfl ?_
    refine r_getI (k := 42) (j := 5) sX_42 rfl fl_X4_21 dX4_givenBlocks_6 ?_
    refine r_icmp_ge 40 dX4_givenBlocks_9 (by decide) (fun c28 => ?_) (fun c28 => ?_)
    · rw [if_pos c28] at h
      refine r_sub [(1, .int v22)] [1] rfl ?_
      obtain rfl := Option.some.inj h
      exact hX v22 rfl
    · rw [if_neg c28] at h
      refine r_aload_n 0 dX4_givenBlocks_12 rfl rfl ?_
      refine r_getC (k := 42) (j := 6) (r := 46) sX_42 rfl fl_X4_25 dX4_givenBlocks_13 ?_
      refine r_iload_n 2 dX4_givenBlocks_16 rfl rfl ?_
      obtain ⟨x24, hx24, h⟩ := b1_some h
      refine r_iaload sX_46 hx24 dX4_givenBlocks_17 ?_
      refine r_bipush (v := (-4)) dX4_givenBlocks_18 rfl ?_
      refine r_icmp_eq 34 dX4_givenBlocks_20 (by decide) (fun c27 => ?_) (fun c27 => ?_)
      · rw [if_pos c27] at h
        refine r_iinc (v := v23 + 1) [(0, .ref (ad_ G 42)), (1, .int v22), (2, .int (v23 + 1))] 2 [1, 2, 0] dX4_givenBlocks_34 rfl rfl (by decide) rfl ?_
        refine r_goto 4 dX4_givenBlocks_37 (by decide) ?_
        obtain rfl := Option.some.inj h
        exact hB (v22, v23 + 1) rfl
      · rw [if_neg c27] at h
        refine r_iload_n 1 dX4_givenBlocks_23 rfl rfl ?_
        refine r_iconst (v := 1) dX4_givenBlocks_24 rfl ?_
        refine r_aload_n 0 dX4_givenBlocks_25 rfl rfl ?_
        refine r_getC (k := 42) (j := 6) (r := 46) sX_42 rfl fl_X4_25 dX4_givenBlocks_26 ?_
        refine r_iload_n 2 dX4_givenBlocks_29 rfl rfl ?_
        obtain ⟨x25, hx25, h⟩ := b1_some h
        refine r_iaload sX_46 hx25 dX4_givenBlocks_30 ?_
        refine r_ishl dX4_givenBlocks_31 ?_
        refine r_ior dX4_givenBlocks_32 ?_
        obtain ⟨x26, hx26, h⟩ := b1_some h
        rw [Option.some.inj hx26]
        refine r_istore_n (i := 1) [(0, .ref (ad_ G 42)), (1, .int x26), (2, .int v23)] [1, 0, 2] dX4_givenBlocks_33 rfl (by decide) rfl ?_
        refine r_iinc (v := v23 + 1) [(0, .ref (ad_ G 42)), (1, .int x26), (2, .int (v23 + 1))] 2 [1, 2, 0] dX4_givenBlocks_34 rfl rfl (by decide) rfl ?_
        refine r_goto 4 dX4_givenBlocks_37 (by decide) ?_
        obtain rfl := Option.some.inj h
        exact hB (x26, v23 + 1) rfl
  obtain ⟨u29, hu29, h⟩ := b1_some h
  refine key u29 hu29 ?_
  show Rn G shX 0 yX4_givenBlocks cX4_givenBlocks 3 (some .int) 40 [(1, .int u29)] [] S post
  refine r_iload_n 0 dX4_givenBlocks_40 rfl rfl ?_
  obtain rfl := Option.some.inj h
  exact r_ireturn rfl dX4_givenBlocks_41 (hp)
theorem mX4_givenBlocks {G : Gx} {S : St} {o : Int32}  (h : fX4_givenBlocks S = some o) : MR_ G shX 0 yX4_givenBlocks cX4_givenBlocks 3 (some .int) [.ref (ad_ G 42)] S (PI_ o S) := MR_of cb_X4_givenBlocks (Nat.le_of_ble_eq_true rfl) [(0, .ref (ad_ G 42))] rfl (tX4_givenBlocks  h ⟨rfl, rfl⟩)
set_option maxRecDepth 100000 in
set_option maxHeartbeats 4000000 in
theorem tX11_filled {G : Gx} {post : Option Value → St → Prop} {S : St} {v1 : Int32} {o : (Int32 × St)}  (h : fX11_filled S v1 = some o) (hp : post (some (.int o.1)) o.2) : Rn G shX 13 yX11_filled cX11_filled 4 (some .int) 0 [(0, .ref (ad_ G 0)), (1, .int v1)] [] S post := by
  unfold fX11_filled at h
  refine r_iload_n 1 dX11_filled_0 rfl rfl ?_
  refine r_bipush (v := 10) dX11_filled_1 rfl ?_
  refine r_bipush (v := 9) dX11_filled_3 rfl ?_
  refine r_aload_n 0 dX11_filled_5 rfl rfl ?_
  refine r_getC (k := 0) (j := 7) (r := 42) sX_0 rfl fl_X11_59 dX11_filled_6 ?_
  refine r_getI (k := 42) (j := 5) sX_42 rfl fl_X11_263 dX11_filled_9 ?_
  refine r_iadd dX11_filled_12 ?_
  obtain ⟨x21, hx21, h⟩ := b1_some h
  refine r_callSi (rest := []) (by omega) (mX11_within hx21) cb_X11_within ml_X11_103 sm_X11_within rfl rfl (Nat.le_of_ble_eq_true rfl) dX11_filled_13 ?_
  refine r_istore_n (i := 2) [(0, .ref (ad_ G 0)), (1, .int v1), (2, .int x21)] [1, 2, 0] dX11_filled_16 rfl (by decide) rfl ?_
  refine r_iload_n 1 dX11_filled_17 rfl rfl ?_
  refine r_iconst (v := 0) dX11_filled_18 rfl ?_
  refine r_iconst (v := 1) dX11_filled_19 rfl ?_
  obtain ⟨x22, hx22, h⟩ := b1_some h
  refine r_callSi (rest := []) (by omega) (mX11_within hx22) cb_X11_within ml_X11_103 sm_X11_within rfl rfl (Nat.le_of_ble_eq_true rfl) dX11_filled_20 ?_
  have key : ∀ ex, ((if x22 = 0 then (if x21 = 0 then some (.inr ((-1), S)) else some (.inl ())) else some (.inl ())) : Option ((Unit) ⊕ (Int32 × St))) = some ex → (∀ w23, ex = .inl w23 → Rn G shX 13 yX11_filled cX11_filled 4 (some .int) 32 [(0, .ref (ad_ G 0)), (1, .int v1), (2, .int x21)] [] S post) → (∀ r32, ex = .inr r32 → post (some (.int r32.1)) r32.2) → Rn G shX 13 yX11_filled cX11_filled 4 (some .int) 23 [(0, .ref (ad_ G 0)), (1, .int v1), (2, .int x21)] [.int x22] S post := by
    intro ex h hJ0 hR
    refine r_if_ne 32 dX11_filled_23 (by decide) (fun c31 => ?_) (fun c31 => ?_)
    · rw [if_neg c31] at h
      obtain rfl := Option.some.inj h
      exact hJ0 _ rfl
    · rw [if_pos c31] at h
      refine r_iload_n 2 dX11_filled_26 rfl rfl ?_
      refine r_if_ne 32 dX11_filled_27 (by decide) (fun c30 => ?_) (fun c30 => ?_)
      · rw [if_neg c30] at h
        obtain rfl := Option.some.inj h
        exact hJ0 _ rfl
      · rw [if_pos c30] at h
        refine r_iconst (v := (-1)) dX11_filled_30 rfl ?_
        obtain rfl := Option.some.inj h
        exact r_ireturn rfl dX11_filled_31 (hR ((-1), S) rfl)
  rcases bs_some h with ⟨w23, hw23, h⟩ | ⟨r32, hw23, h⟩
  · refine key _ hw23 (fun z ez => ?_) (fun z ez => by cases ez)
    cases ez
    refine r_aload_n 0 dX11_filled_32 rfl rfl ?_
    refine r_getC (k := 0) (j := 7) (r := 42) sX_0 rfl fl_X11_59 dX11_filled_33 ?_
    obtain ⟨q24, hq24, h⟩ := b1_some h
    refine r_callVi (k := 42) (rest := []) (by omega) (mX4_fill hq24) sX_42 rfl rfl cb_X4_fill ml_X11_267 im_X4_fill se_X4_fill rfl rfl (Nat.le_of_ble_eq_true rfl) dX11_filled_36 ?_
    refine r_istore_n (i := 3) [(0, .ref (ad_ G 0)), (1, .int v1), (2, .int x21), (3, .int q24.1)] [1, 2, 3, 0] dX11_filled_39 rfl (by decide) rfl ?_
    refine r_iload_n 2 dX11_filled_40 rfl rfl ?_
    refine r_if_eq 57 dX11_filled_41 (by decide) (fun c29 => ?_) (fun c29 => ?_)
    · rw [if_pos c29] at h
      refine r_iload_n 1 dX11_filled_57 rfl rfl ?_
      refine r_if_ne 65 dX11_filled_58 (by decide) (fun c27 => ?_) (fun c27 => ?_)
      · rw [if_neg c27] at h
        refine r_aload_n 0 dX11_filled_65 rfl rfl ?_
        refine r_getC (k := 0) (j := 7) (r := 42) sX_0 rfl fl_X11_59 dX11_filled_66 ?_
        obtain ⟨x25, hx25, h⟩ := b1_some h
        refine r_callVi (k := 42) (rest := []) (by omega) (mX4_givenBlocks hx25) sX_42 rfl rfl cb_X4_givenBlocks ml_X11_273 im_X4_givenBlocks se_X4_givenBlocks rfl rfl (Nat.le_of_ble_eq_true rfl) dX11_filled_69 ?_
        obtain ⟨x26, hx26, h⟩ := b1_some h
        refine r_callSi (rest := []) (by omega) (mJ6_bitCount_0f7a4 hx26) cb_J6_bitCount_0f7a4 ml_X11_276 sm_J6_bitCount_0f7a4 rfl rfl (Nat.le_of_ble_eq_true rfl) dX11_filled_72 ?_
        obtain rfl := Option.some.inj h
        exact r_ireturn rfl dX11_filled_75 (hp)
      · rw [if_pos c27] at h
        refine r_iload_n 3 dX11_filled_61 rfl rfl ?_
        refine r_goto 75 dX11_filled_62 (by decide) ?_
        obtain rfl := Option.some.inj h
        exact r_ireturn rfl dX11_filled_75 (hp)
    · rw [if_neg c29] at h
      refine r_aload_n 0 dX11_filled_44 rfl rfl ?_
      refine r_getC (k := 0) (j := 7) (r := 42) sX_0 rfl fl_X11_59 dX11_filled_45 ?_
      refine r_getC (k := 42) (j := 6) (r := 46) sX_42 rfl fl_X11_270 dX11_filled_48 ?_
      refine r_iload_n 1 dX11_filled_51 rfl rfl ?_
      refine r_bipush (v := 10) dX11_filled_52 rfl ?_
      refine r_isub dX11_filled_54 ?_
      obtain ⟨x28, hx28, h⟩ := b1_some h
      refine r_iaload sX_46 hx28 dX11_filled_55 ?_
      obtain rfl := Option.some.inj h
      exact r_ireturn rfl dX11_filled_56 (hp)
  · refine key _ hw23 (fun z ez => by cases ez) (fun z ez => ?_)
    cases ez
    obtain rfl := Option.some.inj h
    exact hp
theorem mX11_filled {G : Gx} {S : St} {v1 : Int32} {o : (Int32 × St)}  (h : fX11_filled S v1 = some o) : MR_ G shX 13 yX11_filled cX11_filled 4 (some .int) [.ref (ad_ G 0), .int v1] S (PI_ o.1 o.2) := MR_of cb_X11_filled (Nat.le_of_ble_eq_true rfl) [(0, .ref (ad_ G 0)), (1, .int v1)] rfl (tX11_filled  h ⟨rfl, rfl⟩)
set_option maxRecDepth 100000 in
set_option maxHeartbeats 4000000 in
theorem tX9_remove {G : Gx} {post : Option Value → St → Prop} {S : St} {v1 : Int32} {o : St}  (h : fX9_remove S v1 = some o) (hp : post none o) : Rn G shX 1 yX9_remove cX9_remove 4 none 0 [(0, .ref (ad_ G 37)), (1, .int v1)] [] S post := by
  unfold fX9_remove at h
  refine r_aload_n 0 dX9_remove_0 rfl rfl ?_
  refine r_getI (k := 37) (j := 4) sX_37 rfl fl_X9_24 dX9_remove_1 ?_
  refine r_istore_n (i := 2) [(0, .ref (ad_ G 37)), (1, .int v1), (2, .int (gI_ S 37 4))] [1, 2, 0] dX9_remove_4 rfl (by decide) rfl ?_
  refine r_aload_n 0 dX9_remove_5 rfl rfl ?_
  refine r_iconst (v := 0) dX9_remove_6 rfl ?_
  obtain ⟨S21, hS21, h⟩ := b1_some h
  refine r_setI (k := 37) (j := 4) sX_37 rfl pf_X9_24 hS21 dX9_remove_7 ?_
  refine r_iconst (v := 0) dX9_remove_10 rfl ?_
  refine r_istore_n (i := 3) [(0, .ref (ad_ G 37)), (1, .int v1), (2, .int (gI_ S 37 4)), (3, .int 0)] [1, 2, 3, 0] dX9_remove_11 rfl (by decide) rfl ?_
  have key : ∀ ex, lp (fun w22 : Int32 × St => bX9_remove_12 S v1 w22.1 w22.2) 5000 (0, S21) = some ex → (fun u32 : St => Rn G shX 1 yX9_remove cX9_remove 4 none 60 [] [] u32 post) ex → Rn G shX 1 yX9_remove cX9_remove 4 none 12 [(0, .ref (ad_ G 37)), (1, .int v1), (2, .int (gI_ S 37 4)), (3, .int 0)] [] S21 post := by
    intro ex hl hx
    refine lp_rule (body := (fun w22 : Int32 × St => bX9_remove_12 S v1 w22.1 w22.2)) (R := (fun w22 : Int32 × St => Rn G shX 1 yX9_remove cX9_remove 4 none 12 [(0, .ref (ad_ G 37)), (1, .int v1), (2, .int (gI_ S 37 4)), (3, .int w22.1)] [] w22.2 post)) (X := (fun u32 : St => Rn G shX 1 yX9_remove cX9_remove 4 none 60 [] [] u32 post)) ?_ 5000 (0, S21) ex hl hx
    intro w22 oo h hB hX
    obtain ⟨v23, S24⟩ := w22
    replace h : bX9_remove_12 S v1 v23 S24 = some oo := h
    unfold bX9_remove_12 at h
    show Rn G shX 1 yX9_remove cX9_remove 4 none 12 [(0, .ref (ad_ G 37)), (1, .int v1), (2, .int (gI_ S 37 4)), (3, .int v23)] [] S24 post
    refine r_iload_n 3 dX9_remove_12 rfl rfl ?_
    refine r_iload_n 2 dX9_remove_13 rfl rfl ?_
    refine r_icmp_ge 60 dX9_remove_14 (by decide) (fun c31 => ?_) (fun c31 => ?_)
    · rw [if_pos c31] at h
      refine r_sub [] [] rfl ?_
      obtain rfl := Option.some.inj h
      exact hX S24 rfl
    · rw [if_neg c31] at h
      refine r_iload_n 1 dX9_remove_17 rfl rfl ?_
      refine r_iload_n 3 dX9_remove_18 rfl rfl ?_
      refine r_ishr dX9_remove_19 ?_
      refine r_iconst (v := 1) dX9_remove_20 rfl ?_
      refine r_iand dX9_remove_21 ?_
      refine r_if_ne 54 dX9_remove_22 (by decide) (fun c30 => ?_) (fun c30 => ?_)
      · rw [if_neg c30] at h
        refine r_iinc (v := v23 + 1) [(0, .ref (ad_ G 37)), (1, .int v1), (2, .int (gI_ S 37 4)), (3, .int (v23 + 1))] 3 [1, 2, 3, 0] dX9_remove_54 rfl rfl (by decide) rfl ?_
        refine r_goto 12 dX9_remove_57 (by decide) ?_
        obtain rfl := Option.some.inj h
        exact hB (v23 + 1, S24) rfl
      · rw [if_pos c30] at h
        refine r_aload_n 0 dX9_remove_25 rfl rfl ?_
        refine r_aload_n 0 dX9_remove_26 rfl rfl ?_
        refine r_getC (k := 37) (j := 0) (r := 38) sX_37 rfl fl_X9_9 dX9_remove_27 ?_
        refine r_iload_n 3 dX9_remove_30 rfl rfl ?_
        obtain ⟨x25, hx25, h⟩ := b1_some h
        refine r_iaload sX_38 hx25 dX9_remove_31 ?_
        refine r_aload_n 0 dX9_remove_32 rfl rfl ?_
        refine r_getC (k := 37) (j := 1) (r := 39) sX_37 rfl fl_X9_15 dX9_remove_33 ?_
        refine r_iload_n 3 dX9_remove_36 rfl rfl ?_
        obtain ⟨x26, hx26, h⟩ := b1_some h
        refine r_iaload sX_39 hx26 dX9_remove_37 ?_
        refine r_aload_n 0 dX9_remove_38 rfl rfl ?_
        refine r_getC (k := 37) (j := 2) (r := 40) sX_37 rfl fl_X9_18 dX9_remove_39 ?_
        refine r_iload_n 3 dX9_remove_42 rfl rfl ?_
        obtain ⟨x27, hx27, h⟩ := b1_some h
        refine r_iaload sX_40 hx27 dX9_remove_43 ?_
        refine r_aload_n 0 dX9_remove_44 rfl rfl ?_
        refine r_getC (k := 37) (j := 3) (r := 41) sX_37 rfl fl_X9_21 dX9_remove_45 ?_
        refine r_iload_n 3 dX9_remove_48 rfl rfl ?_
        obtain ⟨x28, hx28, h⟩ := b1_some h
        refine r_iaload sX_41 hx28 dX9_remove_49 ?_
        obtain ⟨q29, hq29, h⟩ := b1_some h
        refine r_callVi (k := 37) (rest := []) (by omega) (mX9_add hq29) sX_37 rfl rfl cb_X9_add ml_X9_28 im_X9_add se_X9_add rfl rfl (Nat.le_of_ble_eq_true rfl) dX9_remove_50 ?_
        refine r_pop dX9_remove_53 rfl ?_
        refine r_iinc (v := v23 + 1) [(0, .ref (ad_ G 37)), (1, .int v1), (2, .int (gI_ S 37 4)), (3, .int (v23 + 1))] 3 [1, 2, 3, 0] dX9_remove_54 rfl rfl (by decide) rfl ?_
        refine r_goto 12 dX9_remove_57 (by decide) ?_
        obtain rfl := Option.some.inj h
        exact hB (v23 + 1, q29.2) rfl
  obtain ⟨u32, hu32, h⟩ := b1_some h
  refine key u32 hu32 ?_
  show Rn G shX 1 yX9_remove cX9_remove 4 none 60 [] [] u32 post
  obtain rfl := Option.some.inj h
  exact r_return rfl dX9_remove_60 (hp)
theorem mX9_remove {G : Gx} {S : St} {v1 : Int32} {o : St}  (h : fX9_remove S v1 = some o) : MR_ G shX 1 yX9_remove cX9_remove 4 none [.ref (ad_ G 37), .int v1] S (PV_ o) := MR_of cb_X9_remove (Nat.le_of_ble_eq_true rfl) [(0, .ref (ad_ G 37)), (1, .int v1)] rfl (tX9_remove  h ⟨rfl, rfl⟩)
set_option maxRecDepth 100000 in
set_option maxHeartbeats 4000000 in
theorem tX4_removeFilled {G : Gx} {post : Option Value → St → Prop} {S : St} {o : St}  (h : fX4_removeFilled S = some o) (hp : post none o) : Rn G shX 1 yX4_removeFilled cX4_removeFilled 3 none 0 [(0, .ref (ad_ G 42))] [] S post := by
  unfold fX4_removeFilled at h
  refine r_aload_n 0 dX4_removeFilled_0 rfl rfl ?_
  refine r_getI (k := 42) (j := 5) sX_42 rfl fl_X4_21 dX4_removeFilled_1 ?_
  refine r_istore_n (i := 1) [(0, .ref (ad_ G 42)), (1, .int (gI_ S 42 5))] [1, 0] dX4_removeFilled_4 rfl (by decide) rfl ?_
  refine r_aload_n 0 dX4_removeFilled_5 rfl rfl ?_
  refine r_iconst (v := 0) dX4_removeFilled_6 rfl ?_
  obtain ⟨S21, hS21, h⟩ := b1_some h
  refine r_setI (k := 42) (j := 5) sX_42 rfl pf_X4_21 hS21 dX4_removeFilled_7 ?_
  refine r_iconst (v := 0) dX4_removeFilled_10 rfl ?_
  refine r_istore_n (i := 2) [(0, .ref (ad_ G 42)), (1, .int (gI_ S 42 5)), (2, .int 0)] [1, 2, 0] dX4_removeFilled_11 rfl (by decide) rfl ?_
  have key : ∀ ex, lp (fun w22 : Int32 × St => bX4_removeFilled_12 S w22.1 w22.2) 5000 (0, S21) = some ex → (fun u32 : St => Rn G shX 1 yX4_removeFilled cX4_removeFilled 3 none 57 [] [] u32 post) ex → Rn G shX 1 yX4_removeFilled cX4_removeFilled 3 none 12 [(0, .ref (ad_ G 42)), (1, .int (gI_ S 42 5)), (2, .int 0)] [] S21 post := by
    intro ex hl hx
    refine lp_rule (body := (fun w22 : Int32 × St => bX4_removeFilled_12 S w22.1 w22.2)) (R := (fun w22 : Int32 × St => Rn G shX 1 yX4_removeFilled cX4_removeFilled 3 none 12 [(0, .ref (ad_ G 42)), (1, .int (gI_ S 42 5)), (2, .int w22.1)] [] w22.2 post)) (X := (fun u32 : St => Rn G shX 1 yX4_removeFilled cX4_removeFilled 3 none 57 [] [] u32 post)) ?_ 5000 (0, S21) ex hl hx
    intro w22 oo h hB hX
    obtain ⟨v23, S24⟩ := w22
    replace h : bX4_removeFilled_12 S v23 S24 = some oo := h
    unfold bX4_removeFilled_12 at h
    show Rn G shX 1 yX4_removeFilled cX4_removeFilled 3 none 12 [(0, .ref (ad_ G 42)), (1, .int (gI_ S 42 5)), (2, .int v23)] [] S24 post
    refine r_iload_n 2 dX4_removeFilled_12 rfl rfl ?_
    refine r_iload_n 1 dX4_removeFilled_13 rfl rfl ?_
    refine r_icmp_ge 57 dX4_removeFilled_14 (by decide) (fun c31 => ?_) (fun c31 => ?_)
    · rw [if_pos c31] at h
      refine r_sub [] [] rfl ?_
      obtain rfl := Option.some.inj h
      exact hX S24 rfl
    · rw [if_neg c31] at h
      refine r_aload_n 0 dX4_removeFilled_17 rfl rfl ?_
      refine r_getC (k := 42) (j := 6) (r := 46) sX_42 rfl fl_X4_25 dX4_removeFilled_18 ?_
      refine r_iload_n 2 dX4_removeFilled_21 rfl rfl ?_
      obtain ⟨x25, hx25, h⟩ := b1_some h
      refine r_iaload sX_46 hx25 dX4_removeFilled_22 ?_
      refine r_bipush (v := (-4)) dX4_removeFilled_23 rfl ?_
      refine r_icmp_ne 51 dX4_removeFilled_25 (by decide) (fun c30 => ?_) (fun c30 => ?_)
      · rw [if_neg c30] at h
        refine r_iinc (v := v23 + 1) [(0, .ref (ad_ G 42)), (1, .int (gI_ S 42 5)), (2, .int (v23 + 1))] 2 [1, 2, 0] dX4_removeFilled_51 rfl rfl (by decide) rfl ?_
        refine r_goto 12 dX4_removeFilled_54 (by decide) ?_
        obtain rfl := Option.some.inj h
        exact hB (v23 + 1, S24) rfl
      · rw [if_pos c30] at h
        refine r_aload_n 0 dX4_removeFilled_28 rfl rfl ?_
        refine r_aload_n 0 dX4_removeFilled_29 rfl rfl ?_
        refine r_getC (k := 42) (j := 2) (r := 43) sX_42 rfl fl_X4_9 dX4_removeFilled_30 ?_
        refine r_iload_n 2 dX4_removeFilled_33 rfl rfl ?_
        obtain ⟨x26, hx26, h⟩ := b1_some h
        refine r_iaload sX_43 hx26 dX4_removeFilled_34 ?_
        refine r_aload_n 0 dX4_removeFilled_35 rfl rfl ?_
        refine r_getC (k := 42) (j := 3) (r := 44) sX_42 rfl fl_X4_15 dX4_removeFilled_36 ?_
        refine r_iload_n 2 dX4_removeFilled_39 rfl rfl ?_
        obtain ⟨x27, hx27, h⟩ := b1_some h
        refine r_iaload sX_44 hx27 dX4_removeFilled_40 ?_
        refine r_aload_n 0 dX4_removeFilled_41 rfl rfl ?_
        refine r_getC (k := 42) (j := 4) (r := 45) sX_42 rfl fl_X4_18 dX4_removeFilled_42 ?_
        refine r_iload_n 2 dX4_removeFilled_45 rfl rfl ?_
        obtain ⟨x28, hx28, h⟩ := b1_some h
        refine r_iaload sX_45 hx28 dX4_removeFilled_46 ?_
        obtain ⟨q29, hq29, h⟩ := b1_some h
        refine r_callVi (k := 42) (rest := []) (by omega) (mX4_add hq29) sX_42 rfl rfl cb_X4_add ml_X4_94 im_X4_add se_X4_add rfl rfl (Nat.le_of_ble_eq_true rfl) dX4_removeFilled_47 ?_
        refine r_pop dX4_removeFilled_50 rfl ?_
        refine r_iinc (v := v23 + 1) [(0, .ref (ad_ G 42)), (1, .int (gI_ S 42 5)), (2, .int (v23 + 1))] 2 [1, 2, 0] dX4_removeFilled_51 rfl rfl (by decide) rfl ?_
        refine r_goto 12 dX4_removeFilled_54 (by decide) ?_
        obtain rfl := Option.some.inj h
        exact hB (v23 + 1, q29.2) rfl
  obtain ⟨u32, hu32, h⟩ := b1_some h
  refine key u32 hu32 ?_
  show Rn G shX 1 yX4_removeFilled cX4_removeFilled 3 none 57 [] [] u32 post
  obtain rfl := Option.some.inj h
  exact r_return rfl dX4_removeFilled_57 (hp)
theorem mX4_removeFilled {G : Gx} {S : St} {o : St}  (h : fX4_removeFilled S = some o) : MR_ G shX 1 yX4_removeFilled cX4_removeFilled 3 none [.ref (ad_ G 42)] S (PV_ o) := MR_of cb_X4_removeFilled (Nat.le_of_ble_eq_true rfl) [(0, .ref (ad_ G 42))] rfl (tX4_removeFilled  h ⟨rfl, rfl⟩)
set_option maxRecDepth 100000 in
set_option maxHeartbeats 4000000 in
theorem tX11_deliver {G : Gx} {post : Option Value → St → Prop} {S : St} {o : (Int32 × St)}  (h : fX11_deliver S = some o) (hp : post (some (.int o.1)) o.2) : Rn G shX 13 yX11_deliver cX11_deliver 2 (some .int) 0 [(0, .ref (ad_ G 0))] [] S post := by
  unfold fX11_deliver at h
  refine r_aload_n 0 dX11_deliver_0 rfl rfl ?_
  refine r_getC (k := 0) (j := 7) (r := 42) sX_0 rfl fl_X11_59 dX11_deliver_1 ?_
  obtain ⟨q21, hq21, h⟩ := b1_some h
  refine r_callVi (k := 42) (rest := []) (by omega) (mX4_fill hq21) sX_42 rfl rfl cb_X4_fill ml_X11_267 im_X4_fill se_X4_fill rfl rfl (Nat.le_of_ble_eq_true rfl) dX11_deliver_4 ?_
  refine r_istore_n (i := 1) [(0, .ref (ad_ G 0)), (1, .int q21.1)] [1, 0] dX11_deliver_7 rfl (by decide) rfl ?_
  refine r_aload_n 0 dX11_deliver_8 rfl rfl ?_
  refine r_getC (k := 0) (j := 6) (r := 37) sX_0 rfl fl_X11_50 dX11_deliver_9 ?_
  refine r_aload_n 0 dX11_deliver_12 rfl rfl ?_
  refine r_getC (k := 0) (j := 7) (r := 42) sX_0 rfl fl_X11_59 dX11_deliver_13 ?_
  obtain ⟨x22, hx22, h⟩ := b1_some h
  refine r_callVi (k := 42) (rest := [.ref (ad_ G 37)]) (by omega) (mX4_givenBlocks hx22) sX_42 rfl rfl cb_X4_givenBlocks ml_X11_273 im_X4_givenBlocks se_X4_givenBlocks rfl rfl (Nat.le_of_ble_eq_true rfl) dX11_deliver_16 ?_
  obtain ⟨S23, hS23, h⟩ := b1_some h
  refine r_callVv (k := 37) (rest := []) (by omega) (mX9_remove hS23) sX_37 rfl rfl cb_X9_remove ml_X11_281 im_X9_remove se_X9_remove rfl rfl (Nat.le_of_ble_eq_true rfl) dX11_deliver_19 ?_
  refine r_aload_n 0 dX11_deliver_22 rfl rfl ?_
  refine r_getC (k := 0) (j := 7) (r := 42) sX_0 rfl fl_X11_59 dX11_deliver_23 ?_
  obtain ⟨S24, hS24, h⟩ := b1_some h
  refine r_callVv (k := 42) (rest := []) (by omega) (mX4_removeFilled hS24) sX_42 rfl rfl cb_X4_removeFilled ml_X11_285 im_X4_removeFilled se_X4_removeFilled rfl rfl (Nat.le_of_ble_eq_true rfl) dX11_deliver_26 ?_
  refine r_iload_n 1 dX11_deliver_29 rfl rfl ?_
  obtain rfl := Option.some.inj h
  exact r_ireturn rfl dX11_deliver_30 (hp)
theorem mX11_deliver {G : Gx} {S : St} {o : (Int32 × St)}  (h : fX11_deliver S = some o) : MR_ G shX 13 yX11_deliver cX11_deliver 2 (some .int) [.ref (ad_ G 0)] S (PI_ o.1 o.2) := MR_of cb_X11_deliver (Nat.le_of_ble_eq_true rfl) [(0, .ref (ad_ G 0))] rfl (tX11_deliver  h ⟨rfl, rfl⟩)
set_option maxRecDepth 100000 in
set_option maxHeartbeats 4000000 in
theorem tX11_gains {G : Gx} {post : Option Value → St → Prop} {S : St} {v1 : Int32} {v2 : Int32} {o : (Int32 × St)}  (h : fX11_gains S v1 v2 = some o) (hp : post (some (.int o.1)) o.2) : Rn G shX 6 yX11_gains cX11_gains 6 (some .int) 0 [(0, .ref (ad_ G 0)), (1, .int v1), (2, .int v2)] [] S post := by
  unfold fX11_gains at h
  refine r_aload_n 0 dX11_gains_0 rfl rfl ?_
  refine r_getC (k := 0) (j := 2) (r := 21) sX_0 rfl fl_X11_26 dX11_gains_1 ?_
  refine r_iload_n 1 dX11_gains_4 rfl rfl ?_
  obtain ⟨x21, hx21, h⟩ := b1_some h
  refine r_callVi (k := 21) (rest := []) (by omega) (mX7_has hx21) sX_21 rfl rfl cb_X7_has ml_X11_155 im_X7_has se_X7_has rfl rfl (Nat.le_of_ble_eq_true rfl) dX11_gains_5 ?_
  refine r_if_eq 22 dX11_gains_8 (by decide) (fun c29 => ?_) (fun c29 => ?_)
  · rw [if_pos c29] at h
    refine r_ldcw kc_X11_288 dX11_gains_22 ?_
    obtain rfl := Option.some.inj h
    exact r_ireturn rfl dX11_gains_25 (hp)
  · rw [if_neg c29] at h
    refine r_iload_n 2 dX11_gains_11 rfl rfl ?_
    refine r_iconst (v := 1) dX11_gains_12 rfl ?_
    refine r_sipush (v := 500) dX11_gains_13 rfl ?_
    obtain ⟨x22, hx22, h⟩ := b1_some h
    refine r_callSi (rest := []) (by omega) (mX11_within hx22) cb_X11_within ml_X11_103 sm_X11_within rfl rfl (Nat.le_of_ble_eq_true rfl) dX11_gains_16 ?_
    refine r_if_ne 26 dX11_gains_19 (by decide) (fun c28 => ?_) (fun c28 => ?_)
    · rw [if_neg c28] at h
      refine r_aload_n 0 dX11_gains_26 rfl rfl ?_
      refine r_aload_n 0 dX11_gains_27 rfl rfl ?_
      refine r_getC (k := 0) (j := 0) (r := 1) sX_0 rfl fl_X11_10 dX11_gains_28 ?_
      refine r_getL (k := 1) (j := 2) sX_1 rfl fl_X11_122 dX11_gains_31 ?_
      obtain ⟨q23, hq23, h⟩ := b1_some h
      refine r_callVi (k := 0) (rest := []) (by omega) (mX11_mostWith hq23) sX_0 rfl rfl cb_X11_mostWith ml_X11_194 im_X11_mostWith se_X11_mostWith rfl rfl (Nat.le_of_ble_eq_true rfl) dX11_gains_34 ?_
      refine r_istore_n (i := 3) [(0, .ref (ad_ G 0)), (1, .int v1), (2, .int v2), (3, .int q23.1)] [1, 2, 3, 0] dX11_gains_37 rfl (by decide) rfl ?_
      refine r_aload_n 0 dX11_gains_38 rfl rfl ?_
      refine r_getC (k := 0) (j := 2) (r := 21) sX_0 rfl fl_X11_26 dX11_gains_39 ?_
      refine r_getC (k := 21) (j := 2) (r := 24) sX_21 rfl fl_X11_289 dX11_gains_42 ?_
      refine r_iload_n 1 dX11_gains_45 rfl rfl ?_
      obtain ⟨x24, hx24, h⟩ := b1_some h
      refine r_iaload sX_24 hx24 dX11_gains_46 ?_
      refine r_istore (i := 4) [(0, .ref (ad_ G 0)), (1, .int v1), (2, .int v2), (3, .int q23.1), (4, .int x24)] [1, 2, 3, 4, 0] dX11_gains_47 (by decide) rfl ?_
      refine r_aload_n 0 dX11_gains_49 rfl rfl ?_
      refine r_getC (k := 0) (j := 2) (r := 21) sX_0 rfl fl_X11_26 dX11_gains_50 ?_
      refine r_getC (k := 21) (j := 2) (r := 24) sX_21 rfl fl_X11_289 dX11_gains_53 ?_
      refine r_iload_n 1 dX11_gains_56 rfl rfl ?_
      refine r_iload_n 2 dX11_gains_57 rfl rfl ?_
      obtain ⟨S25, hS25, h⟩ := b1_some h
      refine r_iastore sX_24 hS25 dX11_gains_58 ?_
      refine r_aload_n 0 dX11_gains_59 rfl rfl ?_
      refine r_aload_n 0 dX11_gains_60 rfl rfl ?_
      refine r_getC (k := 0) (j := 0) (r := 1) sX_0 rfl fl_X11_10 dX11_gains_61 ?_
      refine r_getL (k := 1) (j := 2) sX_1 rfl fl_X11_122 dX11_gains_64 ?_
      obtain ⟨q26, hq26, h⟩ := b1_some h
      refine r_callVi (k := 0) (rest := []) (by omega) (mX11_mostWith hq26) sX_0 rfl rfl cb_X11_mostWith ml_X11_194 im_X11_mostWith se_X11_mostWith rfl rfl (Nat.le_of_ble_eq_true rfl) dX11_gains_67 ?_
      refine r_istore (i := 5) [(0, .ref (ad_ G 0)), (1, .int v1), (2, .int v2), (3, .int q23.1), (4, .int x24), (5, .int q26.1)] [1, 2, 3, 4, 5, 0] dX11_gains_70 (by decide) rfl ?_
      refine r_aload_n 0 dX11_gains_72 rfl rfl ?_
      refine r_getC (k := 0) (j := 2) (r := 21) sX_0 rfl fl_X11_26 dX11_gains_73 ?_
      refine r_getC (k := 21) (j := 2) (r := 24) sX_21 rfl fl_X11_289 dX11_gains_76 ?_
      refine r_iload_n 1 dX11_gains_79 rfl rfl ?_
      refine r_iload 4 dX11_gains_80 rfl ?_
      obtain ⟨S27, hS27, h⟩ := b1_some h
      refine r_iastore sX_24 hS27 dX11_gains_82 ?_
      refine r_iload 5 dX11_gains_83 rfl ?_
      refine r_iload_n 3 dX11_gains_85 rfl rfl ?_
      refine r_isub dX11_gains_86 ?_
      obtain rfl := Option.some.inj h
      exact r_ireturn rfl dX11_gains_87 (hp)
    · rw [if_pos c28] at h
      refine r_ldcw kc_X11_288 dX11_gains_22 ?_
      obtain rfl := Option.some.inj h
      exact r_ireturn rfl dX11_gains_25 (hp)
theorem mX11_gains {G : Gx} {S : St} {v1 : Int32} {v2 : Int32} {o : (Int32 × St)}  (h : fX11_gains S v1 v2 = some o) : MR_ G shX 6 yX11_gains cX11_gains 6 (some .int) [.ref (ad_ G 0), .int v1, .int v2] S (PI_ o.1 o.2) := MR_of cb_X11_gains (Nat.le_of_ble_eq_true rfl) [(0, .ref (ad_ G 0)), (1, .int v1), (2, .int v2)] rfl (tX11_gains  h ⟨rfl, rfl⟩)
set_option maxRecDepth 100000 in
set_option maxHeartbeats 4000000 in
theorem tX5_add {G : Gx} {post : Option Value → St → Prop} {S : St} {v1 : Int32} {v2 : Int32} {v3 : Int32} {v4 : Int32} {o : (Int32 × St)}  (h : fX5_add S v1 v2 v3 v4 = some o) (hp : post (some (.int o.1)) o.2) : Rn G shX 0 yX5_add cX5_add 5 (some .int) 0 [(0, .ref (ad_ G 49)), (1, .int v1), (2, .int v2), (3, .int v3), (4, .int v4)] [] S post := by
  unfold fX5_add at h
  refine r_aload_n 0 dX5_add_0 rfl rfl ?_
  refine r_getC (k := 49) (j := 0) (r := 50) sX_49 rfl fl_X5_9 dX5_add_1 ?_
  refine r_aload_n 0 dX5_add_4 rfl rfl ?_
  refine r_getI (k := 49) (j := 6) sX_49 rfl fl_X5_30 dX5_add_5 ?_
  refine r_iload_n 1 dX5_add_8 rfl rfl ?_
  obtain ⟨S21, hS21, h⟩ := b1_some h
  refine r_iastore sX_50 hS21 dX5_add_9 ?_
  refine r_aload_n 0 dX5_add_10 rfl rfl ?_
  refine r_getC (k := 49) (j := 3) (r := 53) sX_49 rfl fl_X5_21 dX5_add_11 ?_
  refine r_aload_n 0 dX5_add_14 rfl rfl ?_
  refine r_getI (k := 49) (j := 6) sX_49 rfl fl_X5_30 dX5_add_15 ?_
  refine r_iload_n 2 dX5_add_18 rfl rfl ?_
  obtain ⟨S22, hS22, h⟩ := b1_some h
  refine r_iastore sX_53 hS22 dX5_add_19 ?_
  refine r_aload_n 0 dX5_add_20 rfl rfl ?_
  refine r_getC (k := 49) (j := 4) (r := 54) sX_49 rfl fl_X5_24 dX5_add_21 ?_
  refine r_aload_n 0 dX5_add_24 rfl rfl ?_
  refine r_getI (k := 49) (j := 6) sX_49 rfl fl_X5_30 dX5_add_25 ?_
  refine r_iload_n 3 dX5_add_28 rfl rfl ?_
  obtain ⟨S23, hS23, h⟩ := b1_some h
  refine r_iastore sX_54 hS23 dX5_add_29 ?_
  refine r_aload_n 0 dX5_add_30 rfl rfl ?_
  refine r_getC (k := 49) (j := 5) (r := 55) sX_49 rfl fl_X5_27 dX5_add_31 ?_
  refine r_aload_n 0 dX5_add_34 rfl rfl ?_
  refine r_getI (k := 49) (j := 6) sX_49 rfl fl_X5_30 dX5_add_35 ?_
  refine r_iload 4 dX5_add_38 rfl ?_
  obtain ⟨S24, hS24, h⟩ := b1_some h
  refine r_iastore sX_55 hS24 dX5_add_40 ?_
  refine r_aload_n 0 dX5_add_41 rfl rfl ?_
  refine r_dup dX5_add_42 rfl ?_
  refine r_getI (k := 49) (j := 6) sX_49 rfl fl_X5_30 dX5_add_43 ?_
  refine r_iconst (v := 1) dX5_add_46 rfl ?_
  refine r_iadd dX5_add_47 ?_
  obtain ⟨S25, hS25, h⟩ := b1_some h
  refine r_setI (k := 49) (j := 6) sX_49 rfl pf_X5_30 hS25 dX5_add_48 ?_
  refine r_aload_n 0 dX5_add_51 rfl rfl ?_
  refine r_getI (k := 49) (j := 6) sX_49 rfl fl_X5_30 dX5_add_52 ?_
  refine r_iconst (v := 1) dX5_add_55 rfl ?_
  refine r_isub dX5_add_56 ?_
  obtain rfl := Option.some.inj h
  exact r_ireturn rfl dX5_add_57 (hp)
theorem mX5_add {G : Gx} {S : St} {v1 : Int32} {v2 : Int32} {v3 : Int32} {v4 : Int32} {o : (Int32 × St)}  (h : fX5_add S v1 v2 v3 v4 = some o) : MR_ G shX 0 yX5_add cX5_add 5 (some .int) [.ref (ad_ G 49), .int v1, .int v2, .int v3, .int v4] S (PI_ o.1 o.2) := MR_of cb_X5_add (Nat.le_of_ble_eq_true rfl) [(0, .ref (ad_ G 49)), (1, .int v1), (2, .int v2), (3, .int v3), (4, .int v4)] rfl (tX5_add  h ⟨rfl, rfl⟩)
set_option maxRecDepth 100000 in
set_option maxHeartbeats 4000000 in
theorem tX5_judge {G : Gx} {post : Option Value → St → Prop} {S : St} {v1 : Int32} {v2 : Int32} {v3 : Int32} {v4 : Int32} {o : St}  (h : fX5_judge S v1 v2 v3 v4 = some o) (hp : post none o) : Rn G shX 1 yX5_judge cX5_judge 7 none 0 [(0, .ref (ad_ G 49)), (1, .int v1), (2, .int v2), (3, .int v3), (4, .int v4)] [] S post := by
  unfold fX5_judge at h
  refine r_iload_n 2 dX5_judge_0 rfl rfl ?_
  refine r_iload_n 3 dX5_judge_1 rfl rfl ?_
  refine r_iload 4 dX5_judge_2 rfl ?_
  refine r_mmax (rest := [.int v2]) (by omega) ml_X5_34 (Nat.le_of_ble_eq_true rfl) dX5_judge_4 ?_
  refine r_mmax (rest := []) (by omega) ml_X5_34 (Nat.le_of_ble_eq_true rfl) dX5_judge_7 ?_
  refine r_istore (i := 5) [(0, .ref (ad_ G 49)), (1, .int v1), (2, .int v2), (3, .int v3), (4, .int v4), (5, .int (mmax_ v2 (mmax_ v3 v4)))] [1, 2, 3, 4, 5, 0] dX5_judge_10 (by decide) rfl ?_
  refine r_iload_n 2 dX5_judge_12 rfl rfl ?_
  refine r_iload_n 3 dX5_judge_13 rfl rfl ?_
  refine r_iload 4 dX5_judge_14 rfl ?_
  refine r_mmin (rest := [.int v2]) (by omega) ml_X5_40 (Nat.le_of_ble_eq_true rfl) dX5_judge_16 ?_
  refine r_mmin (rest := []) (by omega) ml_X5_40 (Nat.le_of_ble_eq_true rfl) dX5_judge_19 ?_
  refine r_istore (i := 6) [(0, .ref (ad_ G 49)), (1, .int v1), (2, .int v2), (3, .int v3), (4, .int v4), (5, .int (mmax_ v2 (mmax_ v3 v4))), (6, .int (mmin_ v2 (mmin_ v3 v4)))] [1, 2, 3, 4, 5, 6, 0] dX5_judge_22 (by decide) rfl ?_
  refine r_aload_n 0 dX5_judge_24 rfl rfl ?_
  refine r_getC (k := 49) (j := 1) (r := 51) sX_49 rfl fl_X5_15 dX5_judge_25 ?_
  refine r_iload_n 1 dX5_judge_28 rfl rfl ?_
  refine r_iload_n 2 dX5_judge_29 rfl rfl ?_
  refine r_iload_n 3 dX5_judge_30 rfl rfl ?_
  refine r_iadd dX5_judge_31 ?_
  refine r_iload 4 dX5_judge_32 rfl ?_
  refine r_iadd dX5_judge_34 ?_
  refine r_iload 5 dX5_judge_35 rfl ?_
  refine r_isub dX5_judge_37 ?_
  refine r_iload 6 dX5_judge_38 rfl ?_
  refine r_isub dX5_judge_40 ?_
  obtain ⟨S21, hS21, h⟩ := b1_some h
  refine r_iastore sX_51 hS21 dX5_judge_41 ?_
  refine r_aload_n 0 dX5_judge_42 rfl rfl ?_
  refine r_getC (k := 49) (j := 2) (r := 52) sX_49 rfl fl_X5_18 dX5_judge_43 ?_
  refine r_iload_n 1 dX5_judge_46 rfl rfl ?_
  refine r_iload 5 dX5_judge_47 rfl ?_
  refine r_iload 6 dX5_judge_49 rfl ?_
  refine r_isub dX5_judge_51 ?_
  refine r_iconst (v := 1) dX5_judge_52 rfl ?_
  refine r_icmp_gt 60 dX5_judge_53 (by decide) (fun c24 => ?_) (fun c24 => ?_)
  · rw [if_pos c24] at h
    refine r_iconst (v := 0) dX5_judge_60 rfl ?_
    obtain ⟨S22, hS22, h⟩ := b1_some h
    refine r_iastore sX_52 hS22 dX5_judge_61 ?_
    obtain rfl := Option.some.inj h
    exact r_return rfl dX5_judge_62 (hp)
  · rw [if_neg c24] at h
    refine r_iconst (v := 1) dX5_judge_56 rfl ?_
    refine r_goto 61 dX5_judge_57 (by decide) ?_
    obtain ⟨S23, hS23, h⟩ := b1_some h
    refine r_iastore sX_52 hS23 dX5_judge_61 ?_
    obtain rfl := Option.some.inj h
    exact r_return rfl dX5_judge_62 (hp)
theorem mX5_judge {G : Gx} {S : St} {v1 : Int32} {v2 : Int32} {v3 : Int32} {v4 : Int32} {o : St}  (h : fX5_judge S v1 v2 v3 v4 = some o) : MR_ G shX 1 yX5_judge cX5_judge 7 none [.ref (ad_ G 49), .int v1, .int v2, .int v3, .int v4] S (PV_ o) := MR_of cb_X5_judge (Nat.le_of_ble_eq_true rfl) [(0, .ref (ad_ G 49)), (1, .int v1), (2, .int v2), (3, .int v3), (4, .int v4)] rfl (tX5_judge  h ⟨rfl, rfl⟩)
set_option maxRecDepth 100000 in
set_option maxHeartbeats 4000000 in
theorem tX11_pipe {G : Gx} {post : Option Value → St → Prop} {S : St} {v1 : Int32} {v2 : Int32} {v3 : Int32} {v4 : Int32} {v5 : Int32} {v6 : Int32} {v7 : Int32} {o : (Int32 × St)}  (h : fX11_pipe S v1 v2 v3 v4 v5 v6 v7 = some o) (hp : post (some (.int o.1)) o.2) : Rn G shX 2 yX11_pipe cX11_pipe 9 (some .int) 0 [(0, .ref (ad_ G 0)), (1, .int v1), (2, .int v2), (3, .int v3), (4, .int v4), (5, .int v5), (6, .int v6), (7, .int v7)] [] S post := by
  unfold fX11_pipe at h
  refine r_iload_n 1 dX11_pipe_0 rfl rfl ?_
  refine r_iconst (v := 0) dX11_pipe_1 rfl ?_
  refine r_iconst (v := 5) dX11_pipe_2 rfl ?_
  obtain ⟨x21, hx21, h⟩ := b1_some h
  refine r_callSi (rest := []) (by omega) (mX11_within hx21) cb_X11_within ml_X11_103 sm_X11_within rfl rfl (Nat.le_of_ble_eq_true rfl) dX11_pipe_3 ?_
  refine r_if_eq 44 dX11_pipe_6 (by decide) (fun c37 => ?_) (fun c37 => ?_)
  · rw [if_pos c37] at h
    refine r_iconst (v := (-1)) dX11_pipe_44 rfl ?_
    obtain rfl := Option.some.inj h
    exact r_ireturn rfl dX11_pipe_45 (hp)
  · rw [if_neg c37] at h
    refine r_iload 5 dX11_pipe_9 rfl ?_
    refine r_iconst (v := 0) dX11_pipe_11 rfl ?_
    refine r_sipush (v := 255) dX11_pipe_12 rfl ?_
    obtain ⟨x22, hx22, h⟩ := b1_some h
    refine r_callSi (rest := []) (by omega) (mX11_within hx22) cb_X11_within ml_X11_103 sm_X11_within rfl rfl (Nat.le_of_ble_eq_true rfl) dX11_pipe_15 ?_
    refine r_if_eq 44 dX11_pipe_18 (by decide) (fun c36 => ?_) (fun c36 => ?_)
    · rw [if_pos c36] at h
      refine r_iconst (v := (-1)) dX11_pipe_44 rfl ?_
      obtain rfl := Option.some.inj h
      exact r_ireturn rfl dX11_pipe_45 (hp)
    · rw [if_neg c36] at h
      refine r_iload 6 dX11_pipe_21 rfl ?_
      refine r_bipush (v := (-50)) dX11_pipe_23 rfl ?_
      refine r_bipush (v := 50) dX11_pipe_25 rfl ?_
      obtain ⟨x23, hx23, h⟩ := b1_some h
      refine r_callSi (rest := []) (by omega) (mX11_within hx23) cb_X11_within ml_X11_103 sm_X11_within rfl rfl (Nat.le_of_ble_eq_true rfl) dX11_pipe_27 ?_
      refine r_if_eq 44 dX11_pipe_30 (by decide) (fun c35 => ?_) (fun c35 => ?_)
      · rw [if_pos c35] at h
        refine r_iconst (v := (-1)) dX11_pipe_44 rfl ?_
        obtain rfl := Option.some.inj h
        exact r_ireturn rfl dX11_pipe_45 (hp)
      · rw [if_neg c35] at h
        refine r_iload 7 dX11_pipe_33 rfl ?_
        refine r_iconst (v := 0) dX11_pipe_35 rfl ?_
        refine r_bipush (v := 7) dX11_pipe_36 rfl ?_
        obtain ⟨x24, hx24, h⟩ := b1_some h
        refine r_callSi (rest := []) (by omega) (mX11_within hx24) cb_X11_within ml_X11_103 sm_X11_within rfl rfl (Nat.le_of_ble_eq_true rfl) dX11_pipe_38 ?_
        refine r_if_ne 46 dX11_pipe_41 (by decide) (fun c34 => ?_) (fun c34 => ?_)
        · rw [if_neg c34] at h
          refine r_iload_n 2 dX11_pipe_46 rfl rfl ?_
          refine r_iconst (v := 0) dX11_pipe_47 rfl ?_
          refine r_iconst (v := 5) dX11_pipe_48 rfl ?_
          obtain ⟨x25, hx25, h⟩ := b1_some h
          refine r_callSi (rest := []) (by omega) (mX11_within hx25) cb_X11_within ml_X11_103 sm_X11_within rfl rfl (Nat.le_of_ble_eq_true rfl) dX11_pipe_49 ?_
          refine r_if_eq 74 dX11_pipe_52 (by decide) (fun c33 => ?_) (fun c33 => ?_)
          · rw [if_pos c33] at h
            refine r_iconst (v := (-1)) dX11_pipe_74 rfl ?_
            obtain rfl := Option.some.inj h
            exact r_ireturn rfl dX11_pipe_75 (hp)
          · rw [if_neg c33] at h
            refine r_iload_n 3 dX11_pipe_55 rfl rfl ?_
            refine r_iconst (v := 0) dX11_pipe_56 rfl ?_
            refine r_iconst (v := 5) dX11_pipe_57 rfl ?_
            obtain ⟨x26, hx26, h⟩ := b1_some h
            refine r_callSi (rest := []) (by omega) (mX11_within hx26) cb_X11_within ml_X11_103 sm_X11_within rfl rfl (Nat.le_of_ble_eq_true rfl) dX11_pipe_58 ?_
            refine r_if_eq 74 dX11_pipe_61 (by decide) (fun c32 => ?_) (fun c32 => ?_)
            · rw [if_pos c32] at h
              refine r_iconst (v := (-1)) dX11_pipe_74 rfl ?_
              obtain rfl := Option.some.inj h
              exact r_ireturn rfl dX11_pipe_75 (hp)
            · rw [if_neg c32] at h
              refine r_iload 4 dX11_pipe_64 rfl ?_
              refine r_iconst (v := 0) dX11_pipe_66 rfl ?_
              refine r_iconst (v := 5) dX11_pipe_67 rfl ?_
              obtain ⟨x27, hx27, h⟩ := b1_some h
              refine r_callSi (rest := []) (by omega) (mX11_within hx27) cb_X11_within ml_X11_103 sm_X11_within rfl rfl (Nat.le_of_ble_eq_true rfl) dX11_pipe_68 ?_
              refine r_if_ne 76 dX11_pipe_71 (by decide) (fun c31 => ?_) (fun c31 => ?_)
              · rw [if_neg c31] at h
                refine r_aload_n 0 dX11_pipe_76 rfl rfl ?_
                refine r_getC (k := 0) (j := 8) (r := 49) sX_0 rfl fl_X11_66 dX11_pipe_77 ?_
                refine r_getI (k := 49) (j := 6) sX_49 rfl fl_X11_292 dX11_pipe_80 ?_
                refine r_bipush (v := 12) dX11_pipe_83 rfl ?_
                refine r_icmp_lt 91 dX11_pipe_85 (by decide) (fun c30 => ?_) (fun c30 => ?_)
                · rw [if_pos c30] at h
                  refine r_aload_n 0 dX11_pipe_91 rfl rfl ?_
                  refine r_getC (k := 0) (j := 8) (r := 49) sX_0 rfl fl_X11_66 dX11_pipe_92 ?_
                  refine r_iload_n 1 dX11_pipe_95 rfl rfl ?_
                  refine r_iload 5 dX11_pipe_96 rfl ?_
                  refine r_iload 6 dX11_pipe_98 rfl ?_
                  refine r_iload 7 dX11_pipe_100 rfl ?_
                  obtain ⟨q28, hq28, h⟩ := b1_some h
                  refine r_callVi (k := 49) (rest := []) (by omega) (mX5_add hq28) sX_49 rfl rfl cb_X5_add ml_X11_293 im_X5_add se_X5_add rfl rfl (Nat.le_of_ble_eq_true rfl) dX11_pipe_102 ?_
                  refine r_istore (i := 8) [(0, .ref (ad_ G 0)), (1, .int v1), (2, .int v2), (3, .int v3), (4, .int v4), (5, .int v5), (6, .int v6), (7, .int v7), (8, .int q28.1)] [1, 2, 3, 4, 5, 6, 7, 8, 0] dX11_pipe_105 (by decide) rfl ?_
                  refine r_aload_n 0 dX11_pipe_107 rfl rfl ?_
                  refine r_getC (k := 0) (j := 8) (r := 49) sX_0 rfl fl_X11_66 dX11_pipe_108 ?_
                  refine r_iload 8 dX11_pipe_111 rfl ?_
                  refine r_iload_n 2 dX11_pipe_113 rfl rfl ?_
                  refine r_iload_n 3 dX11_pipe_114 rfl rfl ?_
                  refine r_iload 4 dX11_pipe_115 rfl ?_
                  obtain ⟨S29, hS29, h⟩ := b1_some h
                  refine r_callVv (k := 49) (rest := []) (by omega) (mX5_judge hS29) sX_49 rfl rfl cb_X5_judge ml_X11_294 im_X5_judge se_X5_judge rfl rfl (Nat.le_of_ble_eq_true rfl) dX11_pipe_117 ?_
                  refine r_iload 8 dX11_pipe_120 rfl ?_
                  obtain rfl := Option.some.inj h
                  exact r_ireturn rfl dX11_pipe_122 (hp)
                · rw [if_neg c30] at h
                  refine r_bipush (v := (-3)) dX11_pipe_88 rfl ?_
                  obtain rfl := Option.some.inj h
                  exact r_ireturn rfl dX11_pipe_90 (hp)
              · rw [if_pos c31] at h
                refine r_iconst (v := (-1)) dX11_pipe_74 rfl ?_
                obtain rfl := Option.some.inj h
                exact r_ireturn rfl dX11_pipe_75 (hp)
        · rw [if_pos c34] at h
          refine r_iconst (v := (-1)) dX11_pipe_44 rfl ?_
          obtain rfl := Option.some.inj h
          exact r_ireturn rfl dX11_pipe_45 (hp)
theorem mX11_pipe {G : Gx} {S : St} {v1 : Int32} {v2 : Int32} {v3 : Int32} {v4 : Int32} {v5 : Int32} {v6 : Int32} {v7 : Int32} {o : (Int32 × St)}  (h : fX11_pipe S v1 v2 v3 v4 v5 v6 v7 = some o) : MR_ G shX 2 yX11_pipe cX11_pipe 9 (some .int) [.ref (ad_ G 0), .int v1, .int v2, .int v3, .int v4, .int v5, .int v6, .int v7] S (PI_ o.1 o.2) := MR_of cb_X11_pipe (Nat.le_of_ble_eq_true rfl) [(0, .ref (ad_ G 0)), (1, .int v1), (2, .int v2), (3, .int v3), (4, .int v4), (5, .int v5), (6, .int v6), (7, .int v7)] rfl (tX11_pipe  h ⟨rfl, rfl⟩)
set_option maxRecDepth 100000 in
set_option maxHeartbeats 4000000 in
theorem tX5_has {G : Gx} {post : Option Value → St → Prop} {S : St} {v1 : Int32} {o : Int32}  (h : fX5_has S v1 = some o) (hp : post (some (.int o)) S) : Rn G shX 1 yX5_has cX5_has 2 (some .boolean) 0 [(0, .ref (ad_ G 49)), (1, .int v1)] [] S post := by
  unfold fX5_has at h
  refine r_iload_n 1 dX5_has_0 rfl rfl ?_
  refine r_iconst (v := 0) dX5_has_1 rfl ?_
  refine r_aload_n 0 dX5_has_2 rfl rfl ?_
  refine r_getI (k := 49) (j := 6) sX_49 rfl fl_X5_30 dX5_has_3 ?_
  refine r_iconst (v := 1) dX5_has_6 rfl ?_
  refine r_isub dX5_has_7 ?_
  obtain ⟨x21, hx21, h⟩ := b1_some h
  refine r_callSNi (rest := []) (by omega) (mX11_within hx21) cb_X11_within (by decide) sm_X11_within rfl rfl (Nat.le_of_ble_eq_true rfl) dX5_has_8 ?_
  obtain ⟨z22, hz22, h⟩ := b1_some h
  obtain ⟨ez22, nz22⟩ := bz_some hz22
  rw [ez22] at h
  obtain rfl := Option.some.inj h
  exact r_zreturn rfl nz22 dX5_has_11 (hp)
theorem mX5_has {G : Gx} {S : St} {v1 : Int32} {o : Int32}  (h : fX5_has S v1 = some o) : MR_ G shX 1 yX5_has cX5_has 2 (some .boolean) [.ref (ad_ G 49), .int v1] S (PI_ o S) := MR_of cb_X5_has (Nat.le_of_ble_eq_true rfl) [(0, .ref (ad_ G 49)), (1, .int v1)] rfl (tX5_has  h ⟨rfl, rfl⟩)
set_option maxRecDepth 100000 in
set_option maxHeartbeats 4000000 in
theorem tX3_seller {G : Gx} {post : Option Value → St → Prop} {k0 : Nat} {S : St} {v1 : Int32} {v2 : Int32} {o : Int32} (hk0 : IsLw k0) (h : fX3_seller k0 S v1 v2 = some o) (hp : post (some (.int o)) S) : Rn G shX 0 yX3_seller cX3_seller 5 (some .int) 0 [(0, .ref (ad_ G k0)), (1, .int v1), (2, .int v2)] [] S post := by
  unfold fX3_seller at h
  refine r_iload_n 1 dX3_seller_0 rfl rfl ?_
  refine r_istore_n (i := 3) [(0, .ref (ad_ G k0)), (1, .int v1), (2, .int v2), (3, .int v1)] [1, 2, 3, 0] dX3_seller_1 rfl (by decide) rfl ?_
  refine r_iconst (v := 0) dX3_seller_2 rfl ?_
  refine r_istore (i := 4) [(0, .ref (ad_ G k0)), (1, .int v1), (2, .int v2), (3, .int v1), (4, .int 0)] [1, 2, 3, 4, 0] dX3_seller_3 (by decide) rfl ?_
  refine r_sub [(0, .ref (ad_ G k0)), (2, .int v2), (3, .int v1), (4, .int 0)] [0, 2, 3, 4] rfl ?_
  have key : ∀ ex, lp (fun w21 : Int32 × Int32 => bX3_seller_5 k0 S v2 w21.1 w21.2) 5000 (v1, 0) = some ex → (fun ex : (Unit) ⊕ Int32 => match ex with | .inl u29 => Rn G shX 0 yX3_seller cX3_seller 5 (some .int) 43 [] [] S post | .inr rr => post (some (.int rr)) S) ex → Rn G shX 0 yX3_seller cX3_seller 5 (some .int) 5 [(0, .ref (ad_ G k0)), (2, .int v2), (3, .int v1), (4, .int 0)] [] S post := by
    intro ex hl hx
    refine lp_rule (body := (fun w21 : Int32 × Int32 => bX3_seller_5 k0 S v2 w21.1 w21.2)) (R := (fun w21 : Int32 × Int32 => Rn G shX 0 yX3_seller cX3_seller 5 (some .int) 5 [(0, .ref (ad_ G k0)), (2, .int v2), (3, .int w21.1), (4, .int w21.2)] [] S post)) (X := (fun ex : (Unit) ⊕ Int32 => match ex with | .inl u29 => Rn G shX 0 yX3_seller cX3_seller 5 (some .int) 43 [] [] S post | .inr rr => post (some (.int rr)) S)) ?_ 5000 (v1, 0) ex hl hx
    intro w21 oo h hB hX
    obtain ⟨v22, v23⟩ := w21
    replace h : bX3_seller_5 k0 S v2 v22 v23 = some oo := h
    unfold bX3_seller_5 at h
    show Rn G shX 0 yX3_seller cX3_seller 5 (some .int) 5 [(0, .ref (ad_ G k0)), (2, .int v2), (3, .int v22), (4, .int v23)] [] S post
    refine r_iload 3 dX3_seller_5 rfl ?_
    refine r_bipush (v := 8) dX3_seller_7 rfl ?_
    refine r_icmp_ge 43 dX3_seller_9 (by decide) (fun c28 => ?_) (fun c28 => ?_)
    · rw [if_pos c28] at h
      refine r_sub [] [] rfl ?_
      obtain rfl := Option.some.inj h
      exact hX (.inl ()) rfl
    · rw [if_neg c28] at h
      refine r_iload_n 2 dX3_seller_12 rfl rfl ?_
      refine r_bipush (v := (-4)) dX3_seller_13 rfl ?_
      refine r_icmp_eq 43 dX3_seller_15 (by decide) (fun c27 => ?_) (fun c27 => ?_)
      · rw [if_pos c27] at h
        refine r_sub [] [] rfl ?_
        obtain rfl := Option.some.inj h
        exact hX (.inl ()) rfl
      · rw [if_neg c27] at h
        refine r_iload_n 1 dX3_seller_18 rfl rfl ?_
        refine r_aload_n 0 dX3_seller_19 rfl rfl ?_
        refine r_getC (k := k0) (j := 3) (r := k0 + 4) hk0.1 rfl fl_X3_21 dX3_seller_20 ?_
        refine r_iload_n 2 dX3_seller_23 rfl rfl ?_
        obtain ⟨x24, hx24, h⟩ := b1_some h
        refine r_iaload hk0.2.2.2.2.1 hx24 dX3_seller_24 ?_
        refine r_icmp_lt 30 dX3_seller_25 (by decide) (fun c26 => ?_) (fun c26 => ?_)
        · rw [if_pos c26] at h
          refine r_aload_n 0 dX3_seller_30 rfl rfl ?_
          refine r_getC (k := k0) (j := 4) (r := k0 + 5) hk0.1 rfl fl_X3_24 dX3_seller_31 ?_
          refine r_iload_n 2 dX3_seller_34 rfl rfl ?_
          obtain ⟨x25, hx25, h⟩ := b1_some h
          refine r_iaload hk0.2.2.2.2.2 hx25 dX3_seller_35 ?_
          refine r_istore_n (i := 3) [(0, .ref (ad_ G k0)), (2, .int v2), (3, .int x25), (4, .int v23)] [1, 2, 0, 3] dX3_seller_36 rfl (by decide) rfl ?_
          refine r_iinc (v := v23 + 1) [(0, .ref (ad_ G k0)), (2, .int v2), (3, .int x25), (4, .int (v23 + 1))] 3 [1, 2, 3, 0] dX3_seller_37 rfl rfl (by decide) rfl ?_
          refine r_goto 5 dX3_seller_40 (by decide) ?_
          obtain rfl := Option.some.inj h
          exact hB (x25, v23 + 1) rfl
        · rw [if_neg c26] at h
          refine r_iload_n 2 dX3_seller_28 rfl rfl ?_
          obtain rfl := Option.some.inj h
          exact r_ireturn rfl dX3_seller_29 (hX (.inr v22) rfl)
  rcases bs_some h with ⟨u29, hu29, h⟩ | ⟨rr, hu29, h⟩
  · refine key _ hu29 ?_
    show Rn G shX 0 yX3_seller cX3_seller 5 (some .int) 43 [] [] S post
    refine r_bipush (v := (-4)) dX3_seller_43 rfl ?_
    obtain rfl := Option.some.inj h
    exact r_ireturn rfl dX3_seller_45 (hp)
  · refine key _ hu29 ?_
    show post (some (.int rr)) S
    obtain rfl := Option.some.inj h
    exact hp
theorem mX3_seller {G : Gx} {k0 : Nat} {S : St} {v1 : Int32} {v2 : Int32} {o : Int32} (hk0 : IsLw k0) (h : fX3_seller k0 S v1 v2 = some o) : MR_ G shX 0 yX3_seller cX3_seller 5 (some .int) [.ref (ad_ G k0), .int v1, .int v2] S (PI_ o S) := MR_of cb_X3_seller (Nat.le_of_ble_eq_true rfl) [(0, .ref (ad_ G k0)), (1, .int v1), (2, .int v2)] rfl (tX3_seller hk0 h ⟨rfl, rfl⟩)
set_option maxRecDepth 100000 in
set_option maxHeartbeats 4000000 in
theorem tX3_stepsToSell {G : Gx} {post : Option Value → St → Prop} {k0 : Nat} {S : St} {v1 : Int32} {v2 : Int32} {o : Int32} (hk0 : IsLw k0) (h : fX3_stepsToSell k0 S v1 v2 = some o) (hp : post (some (.int o)) S) : Rn G shX 0 yX3_stepsToSell cX3_stepsToSell 6 (some .int) 0 [(0, .ref (ad_ G k0)), (1, .int v1), (2, .int v2)] [] S post := by
  unfold fX3_stepsToSell at h
  refine r_iload_n 1 dX3_stepsToSell_0 rfl rfl ?_
  refine r_istore_n (i := 3) [(0, .ref (ad_ G k0)), (1, .int v1), (2, .int v2), (3, .int v1)] [1, 2, 3, 0] dX3_stepsToSell_1 rfl (by decide) rfl ?_
  refine r_iconst (v := 0) dX3_stepsToSell_2 rfl ?_
  refine r_istore (i := 4) [(0, .ref (ad_ G k0)), (1, .int v1), (2, .int v2), (3, .int v1), (4, .int 0)] [1, 2, 3, 4, 0] dX3_stepsToSell_3 (by decide) rfl ?_
  refine r_iconst (v := 0) dX3_stepsToSell_5 rfl ?_
  refine r_istore (i := 5) [(0, .ref (ad_ G k0)), (1, .int v1), (2, .int v2), (3, .int v1), (4, .int 0), (5, .int 0)] [1, 2, 3, 4, 5, 0] dX3_stepsToSell_6 (by decide) rfl ?_
  refine r_sub [(0, .ref (ad_ G k0)), (2, .int v2), (3, .int v1), (4, .int 0), (5, .int 0)] [0, 2, 3, 4, 5] rfl ?_
  have key : ∀ ex, lp (fun w21 : Int32 × Int32 × Int32 => bX3_stepsToSell_8 k0 S v2 w21.1 w21.2.1 w21.2.2) 5000 (v1, 0, 0) = some ex → (fun ex : (Int32) ⊕ Int32 => match ex with | .inl u31 => Rn G shX 0 yX3_stepsToSell cX3_stepsToSell 6 (some .int) 55 [(4, .int u31)] [] S post | .inr rr => post (some (.int rr)) S) ex → Rn G shX 0 yX3_stepsToSell cX3_stepsToSell 6 (some .int) 8 [(0, .ref (ad_ G k0)), (2, .int v2), (3, .int v1), (4, .int 0), (5, .int 0)] [] S post := by
    intro ex hl hx
    refine lp_rule (body := (fun w21 : Int32 × Int32 × Int32 => bX3_stepsToSell_8 k0 S v2 w21.1 w21.2.1 w21.2.2)) (R := (fun w21 : Int32 × Int32 × Int32 => Rn G shX 0 yX3_stepsToSell cX3_stepsToSell 6 (some .int) 8 [(0, .ref (ad_ G k0)), (2, .int v2), (3, .int w21.1), (4, .int w21.2.1), (5, .int w21.2.2)] [] S post)) (X := (fun ex : (Int32) ⊕ Int32 => match ex with | .inl u31 => Rn G shX 0 yX3_stepsToSell cX3_stepsToSell 6 (some .int) 55 [(4, .int u31)] [] S post | .inr rr => post (some (.int rr)) S)) ?_ 5000 (v1, 0, 0) ex hl hx
    intro w21 oo h hB hX
    obtain ⟨v22, v23, v24⟩ := w21
    replace h : bX3_stepsToSell_8 k0 S v2 v22 v23 v24 = some oo := h
    unfold bX3_stepsToSell_8 at h
    show Rn G shX 0 yX3_stepsToSell cX3_stepsToSell 6 (some .int) 8 [(0, .ref (ad_ G k0)), (2, .int v2), (3, .int v22), (4, .int v23), (5, .int v24)] [] S post
    refine r_iload 4 dX3_stepsToSell_8 rfl ?_
    refine r_bipush (v := 8) dX3_stepsToSell_10 rfl ?_
    refine r_icmp_ge 55 dX3_stepsToSell_12 (by decide) (fun c30 => ?_) (fun c30 => ?_)
    · rw [if_pos c30] at h
      refine r_sub [(4, .int v23)] [3] rfl ?_
      obtain rfl := Option.some.inj h
      exact hX (.inl v23) rfl
    · rw [if_neg c30] at h
      refine r_iload_n 1 dX3_stepsToSell_15 rfl rfl ?_
      refine r_aload_n 0 dX3_stepsToSell_16 rfl rfl ?_
      refine r_getC (k := k0) (j := 3) (r := k0 + 4) hk0.1 rfl fl_X3_21 dX3_stepsToSell_17 ?_
      refine r_iload_n 2 dX3_stepsToSell_20 rfl rfl ?_
      obtain ⟨x25, hx25, h⟩ := b1_some h
      refine r_iaload hk0.2.2.2.2.1 hx25 dX3_stepsToSell_21 ?_
      refine r_icmp_ge 36 dX3_stepsToSell_22 (by decide) (fun c29 => ?_) (fun c29 => ?_)
      · rw [if_pos c29] at h
        refine r_iload 3 dX3_stepsToSell_36 rfl ?_
        obtain rfl := Option.some.inj h
        exact r_ireturn rfl dX3_stepsToSell_38 (hX (.inr v23) rfl)
      · rw [if_neg c29] at h
        refine r_aload_n 0 dX3_stepsToSell_25 rfl rfl ?_
        refine r_getC (k := k0) (j := 4) (r := k0 + 5) hk0.1 rfl fl_X3_24 dX3_stepsToSell_26 ?_
        refine r_iload_n 2 dX3_stepsToSell_29 rfl rfl ?_
        obtain ⟨x26, hx26, h⟩ := b1_some h
        refine r_iaload hk0.2.2.2.2.2 hx26 dX3_stepsToSell_30 ?_
        refine r_bipush (v := (-4)) dX3_stepsToSell_31 rfl ?_
        refine r_icmp_ne 39 dX3_stepsToSell_33 (by decide) (fun c28 => ?_) (fun c28 => ?_)
        · rw [if_neg c28] at h
          refine r_aload_n 0 dX3_stepsToSell_39 rfl rfl ?_
          refine r_getC (k := k0) (j := 4) (r := k0 + 5) hk0.1 rfl fl_X3_24 dX3_stepsToSell_40 ?_
          refine r_iload_n 2 dX3_stepsToSell_43 rfl rfl ?_
          obtain ⟨x27, hx27, h⟩ := b1_some h
          refine r_iaload hk0.2.2.2.2.2 hx27 dX3_stepsToSell_44 ?_
          refine r_istore_n (i := 3) [(0, .ref (ad_ G k0)), (2, .int v2), (3, .int x27), (4, .int v23), (5, .int v24)] [1, 2, 0, 3, 4] dX3_stepsToSell_45 rfl (by decide) rfl ?_
          refine r_iinc (v := v23 + 1) [(0, .ref (ad_ G k0)), (2, .int v2), (3, .int x27), (4, .int (v23 + 1)), (5, .int v24)] 3 [1, 2, 3, 0, 4] dX3_stepsToSell_46 rfl rfl (by decide) rfl ?_
          refine r_iinc (v := v24 + 1) [(0, .ref (ad_ G k0)), (2, .int v2), (3, .int x27), (4, .int (v23 + 1)), (5, .int (v24 + 1))] 4 [1, 2, 3, 4, 0] dX3_stepsToSell_49 rfl rfl (by decide) rfl ?_
          refine r_goto 8 dX3_stepsToSell_52 (by decide) ?_
          obtain rfl := Option.some.inj h
          exact hB (x27, v23 + 1, v24 + 1) rfl
        · rw [if_pos c28] at h
          refine r_iload 3 dX3_stepsToSell_36 rfl ?_
          obtain rfl := Option.some.inj h
          exact r_ireturn rfl dX3_stepsToSell_38 (hX (.inr v23) rfl)
  rcases bs_some h with ⟨u31, hu31, h⟩ | ⟨rr, hu31, h⟩
  · refine key _ hu31 ?_
    show Rn G shX 0 yX3_stepsToSell cX3_stepsToSell 6 (some .int) 55 [(4, .int u31)] [] S post
    refine r_iload 0 dX3_stepsToSell_55 rfl ?_
    obtain rfl := Option.some.inj h
    exact r_ireturn rfl dX3_stepsToSell_57 (hp)
  · refine key _ hu31 ?_
    show post (some (.int rr)) S
    obtain rfl := Option.some.inj h
    exact hp
theorem mX3_stepsToSell {G : Gx} {k0 : Nat} {S : St} {v1 : Int32} {v2 : Int32} {o : Int32} (hk0 : IsLw k0) (h : fX3_stepsToSell k0 S v1 v2 = some o) : MR_ G shX 0 yX3_stepsToSell cX3_stepsToSell 6 (some .int) [.ref (ad_ G k0), .int v1, .int v2] S (PI_ o S) := MR_of cb_X3_stepsToSell (Nat.le_of_ble_eq_true rfl) [(0, .ref (ad_ G k0)), (1, .int v1), (2, .int v2)] rfl (tX3_stepsToSell hk0 h ⟨rfl, rfl⟩)
set_option maxRecDepth 100000 in
set_option maxHeartbeats 4000000 in
theorem tX11_told {G : Gx} {post : Option Value → St → Prop} {S : St} {v1 : Int32} {v2 : Int32} {o : Int32}  (h : fX11_told S v1 v2 = some o) (hp : post (some (.int o)) S) : Rn G shX 2 yX11_told cX11_told 3 (some .int) 0 [(0, .ref (ad_ G 0)), (1, .int v1), (2, .int v2)] [] S post := by
  unfold fX11_told at h
  refine r_aload_n 0 dX11_told_0 rfl rfl ?_
  refine r_getC (k := 0) (j := 8) (r := 49) sX_0 rfl fl_X11_66 dX11_told_1 ?_
  refine r_iload_n 1 dX11_told_4 rfl rfl ?_
  obtain ⟨x21, hx21, h⟩ := b1_some h
  refine r_callVi (k := 49) (rest := []) (by omega) (mX5_has hx21) sX_49 rfl rfl cb_X5_has ml_X11_298 im_X5_has se_X5_has rfl rfl (Nat.le_of_ble_eq_true rfl) dX11_told_5 ?_
  refine r_if_ne 14 dX11_told_8 (by decide) (fun c44 => ?_) (fun c44 => ?_)
  · rw [if_neg c44] at h
    refine r_iload_n 2 dX11_told_14 rfl rfl ?_
    by_cases c23 : v2 = 0
    · rw [if_pos c23] at h
      refine r_tableIn 60 dX11_told_15 c23 (by decide) (by decide) rfl (by decide) ?_
      refine r_aload_n 0 dX11_told_60 rfl rfl ?_
      refine r_getC (k := 0) (j := 8) (r := 49) sX_0 rfl fl_X11_66 dX11_told_61 ?_
      refine r_getC (k := 49) (j := 0) (r := 50) sX_49 rfl fl_X11_299 dX11_told_64 ?_
      refine r_iload_n 1 dX11_told_67 rfl rfl ?_
      obtain ⟨x22, hx22, h⟩ := b1_some h
      refine r_iaload sX_50 hx22 dX11_told_68 ?_
      obtain rfl := Option.some.inj h
      exact r_ireturn rfl dX11_told_69 (hp)
    · rw [if_neg c23] at h
      by_cases c25 : v2 = 1
      · rw [if_pos c25] at h
        refine r_tableIn 70 dX11_told_15 c25 (by decide) (by decide) rfl (by decide) ?_
        refine r_aload_n 0 dX11_told_70 rfl rfl ?_
        refine r_getC (k := 0) (j := 8) (r := 49) sX_0 rfl fl_X11_66 dX11_told_71 ?_
        refine r_getC (k := 49) (j := 1) (r := 51) sX_49 rfl fl_X11_302 dX11_told_74 ?_
        refine r_iload_n 1 dX11_told_77 rfl rfl ?_
        obtain ⟨x24, hx24, h⟩ := b1_some h
        refine r_iaload sX_51 hx24 dX11_told_78 ?_
        obtain rfl := Option.some.inj h
        exact r_ireturn rfl dX11_told_79 (hp)
      · rw [if_neg c25] at h
        by_cases c27 : v2 = 2
        · rw [if_pos c27] at h
          refine r_tableIn 80 dX11_told_15 c27 (by decide) (by decide) rfl (by decide) ?_
          refine r_aload_n 0 dX11_told_80 rfl rfl ?_
          refine r_getC (k := 0) (j := 8) (r := 49) sX_0 rfl fl_X11_66 dX11_told_81 ?_
          refine r_getC (k := 49) (j := 2) (r := 52) sX_49 rfl fl_X11_305 dX11_told_84 ?_
          refine r_iload_n 1 dX11_told_87 rfl rfl ?_
          obtain ⟨x26, hx26, h⟩ := b1_some h
          refine r_iaload sX_52 hx26 dX11_told_88 ?_
          obtain rfl := Option.some.inj h
          exact r_ireturn rfl dX11_told_89 (hp)
        · rw [if_neg c27] at h
          by_cases c29 : v2 = 3
          · rw [if_pos c29] at h
            refine r_tableIn 90 dX11_told_15 c29 (by decide) (by decide) rfl (by decide) ?_
            refine r_aload_n 0 dX11_told_90 rfl rfl ?_
            refine r_getC (k := 0) (j := 8) (r := 49) sX_0 rfl fl_X11_66 dX11_told_91 ?_
            refine r_getC (k := 49) (j := 3) (r := 53) sX_49 rfl fl_X11_308 dX11_told_94 ?_
            refine r_iload_n 1 dX11_told_97 rfl rfl ?_
            obtain ⟨x28, hx28, h⟩ := b1_some h
            refine r_iaload sX_53 hx28 dX11_told_98 ?_
            obtain rfl := Option.some.inj h
            exact r_ireturn rfl dX11_told_99 (hp)
          · rw [if_neg c29] at h
            by_cases c31 : v2 = 4
            · rw [if_pos c31] at h
              refine r_tableIn 100 dX11_told_15 c31 (by decide) (by decide) rfl (by decide) ?_
              refine r_aload_n 0 dX11_told_100 rfl rfl ?_
              refine r_getC (k := 0) (j := 8) (r := 49) sX_0 rfl fl_X11_66 dX11_told_101 ?_
              refine r_getC (k := 49) (j := 4) (r := 54) sX_49 rfl fl_X11_311 dX11_told_104 ?_
              refine r_iload_n 1 dX11_told_107 rfl rfl ?_
              obtain ⟨x30, hx30, h⟩ := b1_some h
              refine r_iaload sX_54 hx30 dX11_told_108 ?_
              obtain rfl := Option.some.inj h
              exact r_ireturn rfl dX11_told_109 (hp)
            · rw [if_neg c31] at h
              by_cases c33 : v2 = 5
              · rw [if_pos c33] at h
                refine r_tableIn 110 dX11_told_15 c33 (by decide) (by decide) rfl (by decide) ?_
                refine r_aload_n 0 dX11_told_110 rfl rfl ?_
                refine r_getC (k := 0) (j := 8) (r := 49) sX_0 rfl fl_X11_66 dX11_told_111 ?_
                refine r_getC (k := 49) (j := 5) (r := 55) sX_49 rfl fl_X11_314 dX11_told_114 ?_
                refine r_iload_n 1 dX11_told_117 rfl rfl ?_
                obtain ⟨x32, hx32, h⟩ := b1_some h
                refine r_iaload sX_55 hx32 dX11_told_118 ?_
                obtain rfl := Option.some.inj h
                exact r_ireturn rfl dX11_told_119 (hp)
              · rw [if_neg c33] at h
                by_cases c38 : v2 = 6
                · rw [if_pos c38] at h
                  refine r_tableIn 120 dX11_told_15 c38 (by decide) (by decide) rfl (by decide) ?_
                  refine r_aload_n 0 dX11_told_120 rfl rfl ?_
                  obtain ⟨k34, hk34, h⟩ := b1_some h
                  have ik34 := okL_is hk34
                  refine r_getP (k := 0) (j := 11) sX_0 rfl fl_X11_89 hk34 dX11_told_121 ?_
                  refine r_aload_n 0 dX11_told_124 rfl rfl ?_
                  refine r_getC (k := 0) (j := 8) (r := 49) sX_0 rfl fl_X11_66 dX11_told_125 ?_
                  refine r_getC (k := 49) (j := 5) (r := 55) sX_49 rfl fl_X11_314 dX11_told_128 ?_
                  refine r_iload_n 1 dX11_told_131 rfl rfl ?_
                  obtain ⟨x35, hx35, h⟩ := b1_some h
                  refine r_iaload sX_55 hx35 dX11_told_132 ?_
                  refine r_aload_n 0 dX11_told_133 rfl rfl ?_
                  refine r_getC (k := 0) (j := 8) (r := 49) sX_0 rfl fl_X11_66 dX11_told_134 ?_
                  refine r_getC (k := 49) (j := 1) (r := 51) sX_49 rfl fl_X11_302 dX11_told_137 ?_
                  refine r_iload_n 1 dX11_told_140 rfl rfl ?_
                  obtain ⟨x36, hx36, h⟩ := b1_some h
                  refine r_iaload sX_51 hx36 dX11_told_141 ?_
                  obtain ⟨x37, hx37, h⟩ := b1_some h
                  refine r_callVi (k := k34) (rest := []) (by omega) (mX3_seller ik34 hx37) ik34.1 rfl rfl cb_X3_seller ml_X11_317 im_X3_seller se_X3_seller rfl rfl (Nat.le_of_ble_eq_true rfl) dX11_told_142 ?_
                  obtain rfl := Option.some.inj h
                  exact r_ireturn rfl dX11_told_145 (hp)
                · rw [if_neg c38] at h
                  by_cases c43 : v2 = 7
                  · rw [if_pos c43] at h
                    refine r_tableIn 146 dX11_told_15 c43 (by decide) (by decide) rfl (by decide) ?_
                    refine r_aload_n 0 dX11_told_146 rfl rfl ?_
                    obtain ⟨k39, hk39, h⟩ := b1_some h
                    have ik39 := okL_is hk39
                    refine r_getP (k := 0) (j := 11) sX_0 rfl fl_X11_89 hk39 dX11_told_147 ?_
                    refine r_aload_n 0 dX11_told_150 rfl rfl ?_
                    refine r_getC (k := 0) (j := 8) (r := 49) sX_0 rfl fl_X11_66 dX11_told_151 ?_
                    refine r_getC (k := 49) (j := 5) (r := 55) sX_49 rfl fl_X11_314 dX11_told_154 ?_
                    refine r_iload_n 1 dX11_told_157 rfl rfl ?_
                    obtain ⟨x40, hx40, h⟩ := b1_some h
                    refine r_iaload sX_55 hx40 dX11_told_158 ?_
                    refine r_aload_n 0 dX11_told_159 rfl rfl ?_
                    refine r_getC (k := 0) (j := 8) (r := 49) sX_0 rfl fl_X11_66 dX11_told_160 ?_
                    refine r_getC (k := 49) (j := 1) (r := 51) sX_49 rfl fl_X11_302 dX11_told_163 ?_
                    refine r_iload_n 1 dX11_told_166 rfl rfl ?_
                    obtain ⟨x41, hx41, h⟩ := b1_some h
                    refine r_iaload sX_51 hx41 dX11_told_167 ?_
                    obtain ⟨x42, hx42, h⟩ := b1_some h
                    refine r_callVi (k := k39) (rest := []) (by omega) (mX3_stepsToSell ik39 hx42) ik39.1 rfl rfl cb_X3_stepsToSell ml_X11_320 im_X3_stepsToSell se_X3_stepsToSell rfl rfl (Nat.le_of_ble_eq_true rfl) dX11_told_168 ?_
                    obtain rfl := Option.some.inj h
                    exact r_ireturn rfl dX11_told_171 (hp)
                  · rw [if_neg c43] at h
                    have nc23 : (v2 : Int32).toInt ≠ 0 := ne_toInt c23
                    have nc25 : (v2 : Int32).toInt ≠ 1 := ne_toInt c25
                    have nc27 : (v2 : Int32).toInt ≠ 2 := ne_toInt c27
                    have nc29 : (v2 : Int32).toInt ≠ 3 := ne_toInt c29
                    have nc31 : (v2 : Int32).toInt ≠ 4 := ne_toInt c31
                    have nc33 : (v2 : Int32).toInt ≠ 5 := ne_toInt c33
                    have nc38 : (v2 : Int32).toInt ≠ 6 := ne_toInt c38
                    have nc43 : (v2 : Int32).toInt ≠ 7 := ne_toInt c43
                    refine r_tableOut 172 dX11_told_15 (by omega) (by decide) ?_
                    refine r_bipush (v := (-100)) dX11_told_172 rfl ?_
                    obtain rfl := Option.some.inj h
                    exact r_ireturn rfl dX11_told_174 (hp)
  · rw [if_pos c44] at h
    refine r_bipush (v := (-100)) dX11_told_11 rfl ?_
    obtain rfl := Option.some.inj h
    exact r_ireturn rfl dX11_told_13 (hp)
theorem mX11_told {G : Gx} {S : St} {v1 : Int32} {v2 : Int32} {o : Int32}  (h : fX11_told S v1 v2 = some o) : MR_ G shX 2 yX11_told cX11_told 3 (some .int) [.ref (ad_ G 0), .int v1, .int v2] S (PI_ o S) := MR_of cb_X11_told (Nat.le_of_ble_eq_true rfl) [(0, .ref (ad_ G 0)), (1, .int v1), (2, .int v2)] rfl (tX11_told  h ⟨rfl, rfl⟩)
set_option maxRecDepth 100000 in
set_option maxHeartbeats 4000000 in
theorem tX10_append {G : Gx} {post : Option Value → St → Prop} {S : St} {v1 : Int64} {o : St}  (h : fX10_append S v1 = some o) (hp : post none o) : Rn G shX 0 yX10_append cX10_append 4 none 0 [(0, .ref (ad_ G 56)), (1, .long v1)] [] S post := by
  unfold fX10_append at h
  refine r_bipush (v := 56) dX10_append_0 rfl ?_
  refine r_istore_n (i := 3) [(0, .ref (ad_ G 56)), (1, .long v1), (3, .int 56)] [1, 2, 0] dX10_append_2 rfl (by decide) rfl ?_
  have key : ∀ ex, lp (fun w21 : Int32 × St => bX10_append_3 v1 w21.1 w21.2) 5000 (56, S) = some ex → (fun u28 : St => Rn G shX 0 yX10_append cX10_append 4 none 50 [] [] u28 post) ex → Rn G shX 0 yX10_append cX10_append 4 none 3 [(0, .ref (ad_ G 56)), (1, .long v1), (3, .int 56)] [] S post := by
    intro ex hl hx
    refine lp_rule (body := (fun w21 : Int32 × St => bX10_append_3 v1 w21.1 w21.2)) (R := (fun w21 : Int32 × St => Rn G shX 0 yX10_append cX10_append 4 none 3 [(0, .ref (ad_ G 56)), (1, .long v1), (3, .int w21.1)] [] w21.2 post)) (X := (fun u28 : St => Rn G shX 0 yX10_append cX10_append 4 none 50 [] [] u28 post)) ?_ 5000 (56, S) ex hl hx
    intro w21 oo h hB hX
    obtain ⟨v22, S23⟩ := w21
    replace h : bX10_append_3 v1 v22 S23 = some oo := h
    unfold bX10_append_3 at h
    show Rn G shX 0 yX10_append cX10_append 4 none 3 [(0, .ref (ad_ G 56)), (1, .long v1), (3, .int v22)] [] S23 post
    refine r_iload_n 2 dX10_append_3 rfl rfl ?_
    refine r_if_lt 50 dX10_append_4 (by decide) (fun c27 => ?_) (fun c27 => ?_)
    · rw [if_pos c27] at h
      refine r_sub [] [] rfl ?_
      obtain rfl := Option.some.inj h
      exact hX S23 rfl
    · rw [if_neg c27] at h
      refine r_aload_n 0 dX10_append_7 rfl rfl ?_
      refine r_getI (k := 56) (j := 1) sX_56 rfl fl_X10_13 dX10_append_8 ?_
      refine r_sipush (v := 200) dX10_append_11 rfl ?_
      refine r_icmp_ge 50 dX10_append_14 (by decide) (fun c26 => ?_) (fun c26 => ?_)
      · rw [if_pos c26] at h
        refine r_sub [] [] rfl ?_
        obtain rfl := Option.some.inj h
        exact hX S23 rfl
      · rw [if_neg c26] at h
        refine r_aload_n 0 dX10_append_17 rfl rfl ?_
        refine r_getC (k := 56) (j := 0) (r := 57) sX_56 rfl fl_X10_9 dX10_append_18 ?_
        refine r_aload_n 0 dX10_append_21 rfl rfl ?_
        refine r_getI (k := 56) (j := 1) sX_56 rfl fl_X10_13 dX10_append_22 ?_
        refine r_lload_n 1 dX10_append_25 rfl rfl ?_
        refine r_iload_n 2 dX10_append_26 rfl rfl ?_
        refine r_lshr dX10_append_27 ?_
        refine r_ldc2 kl_X10_29 dX10_append_28 ?_
        refine r_land dX10_append_31 ?_
        refine r_l2i dX10_append_32 ?_
        obtain ⟨S24, hS24, h⟩ := b1_some h
        refine r_iastore sX_57 hS24 dX10_append_33 ?_
        refine r_aload_n 0 dX10_append_34 rfl rfl ?_
        refine r_dup dX10_append_35 rfl ?_
        refine r_getI (k := 56) (j := 1) sX_56 rfl fl_X10_13 dX10_append_36 ?_
        refine r_iconst (v := 1) dX10_append_39 rfl ?_
        refine r_iadd dX10_append_40 ?_
        obtain ⟨S25, hS25, h⟩ := b1_some h
        refine r_setI (k := 56) (j := 1) sX_56 rfl pf_X10_13 hS25 dX10_append_41 ?_
        refine r_iinc (v := v22 + (-8)) [(0, .ref (ad_ G 56)), (1, .long v1), (3, .int (v22 + (-8)))] 2 [1, 2, 0] dX10_append_44 rfl rfl (by decide) rfl ?_
        refine r_goto 3 dX10_append_47 (by decide) ?_
        obtain rfl := Option.some.inj h
        exact hB (v22 + (-8), S25) rfl
  obtain ⟨u28, hu28, h⟩ := b1_some h
  refine key u28 hu28 ?_
  show Rn G shX 0 yX10_append cX10_append 4 none 50 [] [] u28 post
  obtain rfl := Option.some.inj h
  exact r_return rfl dX10_append_50 (hp)
theorem mX10_append {G : Gx} {S : St} {v1 : Int64} {o : St}  (h : fX10_append S v1 = some o) : MR_ G shX 0 yX10_append cX10_append 4 none [.ref (ad_ G 56), .long v1] S (PV_ o) := MR_of cb_X10_append (Nat.le_of_ble_eq_true rfl) [(0, .ref (ad_ G 56)), (1, .long v1)] rfl (tX10_append  h ⟨rfl, rfl⟩)
