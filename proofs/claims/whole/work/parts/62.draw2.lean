theorem sim_draw : ∀ (SX SM : St) (a1 a2 a3 : Int32), Rel_ SX SM → ∃ (r : Int32) (S1 S2 : St), fX11_draw SX a1 a2 a3 = some (r, S1) ∧ fX12_draw SM a1 a2 a3 = some (r, S2) ∧ Rel_ S1 S2 := by
  intro SX SM a1 a2 a3 h
  obtain ⟨hB, hS, hP, hT, hL, hH, hE⟩ := id h
  obtain ⟨w, v, cr, gr, hb, ha, ⟨nw, dc, hc⟩⟩ := hB
  obtain ⟨⟨w1, w2, v1, v2⟩, hg, hx, hm1, hm2, hm⟩ := id hb
  unfold fX11_draw fX12_draw
  rw [isSheet_e]
  simp only [within_e, b1_s, bs_l, bs_r, oI_e, oL_e, oR_e, i10]
  by_cases c1 : 0 ≤ a1 ∧ a1 ≤ 3
  · by_cases c2 : 0 ≤ a2 ∧ a2 ≤ 2
    · obtain ⟨k, _, hk, rfl⟩ := in_rng (a := 0) (b := 3) (by omega) c1 (by omega)
      obtain ⟨l2, _, hl2, rfl⟩ := in_rng (a := 0) (b := 2) (by omega) c2 (by omega)
      have hk4 : k < 4 := by omega
      obtain ⟨sz, ln, ce, ⟨u0, ul⟩, u1, u2, u3, u4, u5, u6⟩ := hH k hk4
      have N1 : 1 ≤ w * v := Nat.mul_pos w1 v1
      have N2 : w * v ≤ 64 := Nat.le_trans (Nat.mul_le_mul w2 v2) (by decide)
      have px : gI_ SX 1 0 * gI_ SX 1 1 = nI (w * v) := by rw [hx.1, hx.2.1, nI_mul]
      have pm : gI_ SM 0 0 * gI_ SM 0 1 = nI (w * v) := by rw [hm1, hm2, nI_mul]
      simp only [c1, c2, not_true_eq_false, not_false_eq_true, if_true, if_false, and_self, true_and, and_true, and_false, false_and, sheetR hk4, b1_s, bs_l, bs_r, oI_e, oL_e, oR_e, nothing_e u1 ul, zb_0]
      simp (disch := omega) only [li_le1, li_le2, li_lt1, li_lt2, li_eq1, li_eq2, li_add1, li_add2, li_sub1, li_sub2, li_mul1, li_mul2, li_div2, nI_leI, nI_ltI, nI_eq, nI_add, nI_sub, nI_mul, nI_div, rI_n, rL_n, rR_n, wI_n, wL_n, li_rI, li_rL, li_rR, li_wI, li_wL, b1_s, bs_l, bs_r, oI_e, oL_e, oR_e, wZ_0, wZ_1, wZ_b, if_true, if_false, not_true_eq_false, not_false_eq_true, u4, sv_m4' ul]
      cases ln with
      | none =>
        have : ¬ sv none = nI l2 := fun q => by
          have := (m4_ne (show l2 < 2 ^ 31 by omega)).mp q.symm
          exact this
        exact ⟨-11, SX, SM, by simp, by simp [this], h⟩
      | some l =>
        have hl := ul l rfl
        simp only [Option.isNone_some, if_true, reduceCtorEq, if_false]
        rw [u1]
        simp only [sl, sv]
        simp (disch := omega) only [li_le1, li_le2, li_lt1, li_lt2, li_eq1, li_eq2, li_add1, li_add2, li_sub1, li_sub2, li_mul1, li_mul2, li_div2, nI_leI, nI_ltI, nI_eq, nI_add, nI_sub, nI_mul, nI_div, rI_n, rL_n, rR_n, wI_n, wL_n, li_rI, li_rL, li_rR, li_wI, li_wL, b1_s, bs_l, bs_r, oI_e, oL_e, oR_e, wZ_0, wZ_1, wZ_b, if_true, if_false, not_true_eq_false, not_false_eq_true]
        by_cases c3 : l = l2
        · subst c3
          simp only [if_true]
          by_cases c4 : 0 ≤ a3 ∧ a3 ≤ nI sz - 1
          · obtain ⟨j, hj, rfl⟩ := (in_nat (by omega)).mp c4
            have j64 : j < 64 := by omega
            rw [refuse_x (ce := ce) px N2 u2 u0 (fun i hi => by rw [show 75 + 2 * k + 1 = 76 + 2 * k by omega]; exact u3 i hi) j64, refuse_m (ce := ce) pm N2 hk4 u5 u0 u6 j64]
            cases hf : fbd sz j ce (w * v) with
            | some q =>
              have hq := fbd_ne (w * v) q N2 hf
              simp only [b1_s, bs_l, bs_r, oI_e, oL_e, oR_e, Option.getD_some, hq, if_false]
              exact ⟨_, _, _, rfl, rfl, h⟩
            | none =>
              have ok : ∀ i, i < w * v → j + i < sz ∧ 0 ≤ ce (j + i) ∧ ce (j + i) ≤ 10 := fun i hi => by
                have := fbd_none (w * v) hf i hi
                simp only [bdc] at this
                split at this
                · rename_i z
                  split at this
                  · rename_i z2; exact ⟨z, z2⟩
                  · cases this
                · cases this
              have cvx : ∃ cv : Nat → Nat, ∀ i, i < w * v → ce (j + i) = nI (cv i) ∧ cv i ≤ 10 := ⟨fun i => (ce (j + i)).toNatClampNeg, fun i hi => by
                obtain ⟨z0, z1, z2⟩ := ok i hi
                obtain ⟨q, _, q2, e⟩ := in_rng (a := 0) (b := 10) (by omega) ⟨z1, z2⟩ (by omega)
                show ce (j + i) = nI ((ce (j + i)).toNatClampNeg) ∧ (ce (j + i)).toNatClampNeg ≤ 10
                rw [e, nI_clamp (by omega)]
                exact ⟨rfl, q2⟩⟩
              obtain ⟨cv, hcv⟩ := cvx
              obtain ⟨SX', SM', e1, e2, act, f1, f2⟩ := keep_sim hb ha
              obtain ⟨SX2, e3, b3, f3⟩ := copy_all (S := SX') (k := 75 + 2 * k) (w := w) (h := v) (j := j) (cv := cv) (cr := cr) (gr := gr) ⟨w1, w2⟩ v2 (by omega) (by rw [f1.gI (by simp)]; exact hx.1) (by rw [f1.gI (by simp)]; exact hx.2.1) (fun i hi => ⟨by
                rw [f1.aI (by simp; omega), show 75 + 2 * k + 1 = 76 + 2 * k by omega, u3 _ (by have := (ok i hi).1; omega)]
                exact (hcv i hi).1, (hcv i hi).2, by have := (ok i hi).1; omega⟩) (fun q hq => ⟨by rw [f1.gL (by simp)]; exact hx.2.2.1 q hq, by rw [f1.aI (by simp)]; exact hx.2.2.2 q hq⟩)
              obtain ⟨SM2, e4, b4, f4⟩ := copy_m (S := SM') (k := k) (w := w) (h := v) (j := j) (cv := cv) (cr := cr) (gr := gr) ⟨w1, w2⟩ ⟨v1, v2⟩ hk4 (by rw [f2.gI (by simp)]; exact hm1) (by rw [f2.gI (by simp)]; exact hm2) (fun i hi => ⟨by
                rw [f2.aI (by simp), u6 _ (by have := (ok i hi).1; omega)]
                exact (hcv i hi).1, (hcv i hi).2, by have := (ok i hi).1; omega⟩) (fun q hq => by
                rw [f2.aI (by simp), f2.aI (by simp)]
                have := hm q hq
                rw [Nat.zero_add] at this
                exact this)
              have e5 := many_m (S := SM2) (cr := crn w v cv cr (v * w)) (fun q hq => (b4 q hq).1)
              have e6 : fb_ct (lt_ (gL_ SX2 1 2)) 64 = fb_ct (crn w v cv cr (v * w)) 64 := fb_ct_cong (fun q hq => (b3 q hq).1)
              simp only [b1_s, bs_l, bs_r, oI_e, oL_e, oR_e, Option.getD_none, if_true, e1, e2, e3, e4, e5, pc64_e, e6]
              refine ⟨_, _, _, rfl, rfl, ?_⟩
              have F1 : Fr (fun a b => (decide (5 ≤ a) && decide (a ≤ 20)) || (a == 3 && (b == 1 || b == 2)) || a == 2 || (a == 1 && b == 2)) SX SX2 := Fr.trans (f1.mono (by intro a b z; simp at z ⊢; omega)) (f3.mono (by intro a b z; simp [pCpX] at z ⊢; omega))
              have F2 : Fr (fun a b => a == 4 || a == 5 || (a == 0 && b == 6) || a == 1 || a == 2) SM SM2 := Fr.trans (f2.mono (by intro a b z; simp at z ⊢; omega)) (f4.mono (by intro a b z; simp at z ⊢; omega))
              refine ⟨?_, hS.fr F1 F2 (fun k j z => by simp [plX, plM, Nat.ble_eq] at z ⊢; omega) (fun k j z => by simp [plX, plM, Nat.ble_eq] at z ⊢; omega), hP.fr F1 F2 (fun k j z => by simp [plX, plM, Nat.ble_eq] at z ⊢; omega) (fun k j z => by simp [plX, plM, Nat.ble_eq] at z ⊢; omega), hT.fr F1 F2 (fun k j z => by simp [plX, plM, Nat.ble_eq] at z ⊢; omega) (fun k j z => by simp [plX, plM, Nat.ble_eq] at z ⊢; omega), hL.fr F1 F2 (fun k j z => by simp [plX, plM, Nat.ble_eq] at z ⊢; omega) (fun k j z => by simp [plX, plM, Nat.ble_eq] at z ⊢; omega), hH.fr F1 F2 (fun k j z => by simp [plX, plM, Nat.ble_eq] at z ⊢; omega) (fun k j z => by simp [plX, plM, Nat.ble_eq] at z ⊢; omega), by rw [F1.gI (by simp), F2.gI (by simp)]; exact hE⟩
              obtain ⟨n, nx, ac, ag, act⟩ := act
              refine ⟨w, v, crn w v cv cr (v * w), grn w v cv gr (v * w), ⟨⟨w1, w2, v1, v2⟩, fun q hq => ?_, ⟨?_, ?_, fun q hq => (b3 q hq).1, fun q hq => (b3 q hq).2⟩, ?_, ?_, fun q hq => ?_⟩, ⟨n, nx, ac, ag, act.fr f3 f4 rfl rfl (fun k j z1 z2 => by simp [pCpX]; omega) rfl (fun j => rfl) (fun j => rfl)⟩, ⟨nw, dc, hc.fr F1 F2 rfl (fun j => rfl) rfl (fun j => rfl)⟩⟩
              · unfold grn
                split
                · rename_i z
                  have := (hcv (q / 8 * w + q % 8) (by rw [Nat.mul_comm w v]; exact z.2.2)).2
                  split <;> omega
                · exact hg q hq
              · rw [F1.gI (by simp)]; exact hx.1
              · rw [F1.gI (by simp)]; exact hx.2.1
              · rw [F2.gI (by simp)]; exact hm1
              · rw [F2.gI (by simp)]; exact hm2
              · rw [Nat.zero_add]; exact b4 q hq
          · rw [refuse0_x px ⟨N1, N2⟩ u2 c4, refuse0_m pm ⟨N1, N2⟩ hk4 u5 u0 c4]
            simp only [b1_s, bs_l, bs_r, oI_e, oL_e, oR_e]
            exact ⟨_, _, _, by rw [if_neg (by decide)], rfl, h⟩
        · simp only [c3, if_false]
          exact ⟨_, _, _, rfl, by simp, h⟩
    · exact ⟨-1, SX, SM, by simp only [c1, c2, not_true_eq_false, not_false_eq_true, if_true, if_false, and_self, true_and, and_true, and_false, false_and], by simp only [c1, c2, not_true_eq_false, not_false_eq_true, if_true, if_false, and_self, true_and, and_true, and_false, false_and], h⟩
  · exact ⟨-1, SX, SM, by simp only [c1, not_true_eq_false, not_false_eq_true, if_true, if_false, and_self, true_and, and_true, and_false, false_and], by simp only [c1, not_true_eq_false, not_false_eq_true, if_true, if_false, and_self, true_and, and_true, and_false, false_and], h⟩
