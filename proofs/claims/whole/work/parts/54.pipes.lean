/-! pipe, lots -/
theorem Pip.push {S S' : St} {a b r n l g s m : Nat} {t : Bool} {d : Int32} {lo gd st nm : Nat → Nat} {ag : Nat → Bool} {dr : Nat → Int32} (hs : Pip S a b r n lo gd st nm ag dr) (h0 : gI_ S' a b = nI (n + 1))
    (h1 : ∀ i, aI_ S' r i = if i = n then nI l else aI_ S r i) (h2 : ∀ i, aI_ S' (r + 1) i = if i = n then nI g else aI_ S (r + 1) i) (h3 : ∀ i, aI_ S' (r + 2) i = if i = n then zb t else aI_ S (r + 2) i) (h4 : ∀ i, aI_ S' (r + 3) i = if i = n then nI s else aI_ S (r + 3) i) (h5 : ∀ i, aI_ S' (r + 4) i = if i = n then d else aI_ S (r + 4) i) (h6 : ∀ i, aI_ S' (r + 5) i = if i = n then nI m else aI_ S (r + 5) i) :
    Pip S' a b r (n + 1) (at_ lo n l) (at_ gd n g) (at_ st n s) (at_ nm n m) (at_ ag n t) (at_ dr n d) := by
  refine ⟨h0, fun i hi => ?_⟩
  rw [h1, h2, h3, h4, h5, h6]
  by_cases e : i = n
  · subst e; simp [at_s]
  · simp only [e, if_false, at_o _ _ e]
    exact hs.2 i (by omega)
theorem least_e (S : St) {a b : Nat} (ha : a < 2 ^ 31) (hb : b < 2 ^ 31) : fX12_least S (nI a) (nI b) = some (nI (min a b)) := by
  unfold fX12_least
  by_cases h : b ≤ a
  · rw [if_pos (nI_le h ha), Nat.min_eq_right h]
  · rw [if_neg (nI_ge (by omega) hb), Nat.min_eq_left (by omega)]
theorem greatest_e (S : St) {a b : Nat} (ha : a < 2 ^ 31) (hb : b < 2 ^ 31) : fX12_greatest S (nI a) (nI b) = some (nI (max a b)) := by
  unfold fX12_greatest
  by_cases h : a ≤ b
  · rw [if_pos (nI_le h hb), Nat.max_eq_right h]
  · rw [if_neg (nI_ge (by omega) ha), Nat.max_eq_left (by omega)]
theorem sim_pipe : ∀ (SX SM : St) (a1 a2 a3 a4 a5 a6 a7 : Int32), Rel_ SX SM → ∃ (r : Int32) (S1 S2 : St), fX11_pipe SX a1 a2 a3 a4 a5 a6 a7 = some (r, S1) ∧ fX12_pipe SM a1 a2 a3 a4 a5 a6 a7 = some (r, S2) ∧ Rel_ S1 S2 := by
  intro SX SM a1 a2 a3 a4 a5 a6 a7 h
  obtain ⟨hB, hS, hP, hT, hL, hH, hE⟩ := id h
  obtain ⟨n, lo, gd, st, nm, ag, dr, ⟨hn, pb⟩, px, pm⟩ := hP
  unfold fX11_pipe fX12_pipe
  simp only [within_e, (in_e SM a1 0 5 (B := 0) (C := 5) rfl rfl), (in_e SM a2 0 5 (B := 0) (C := 5) rfl rfl), (in_e SM a3 0 5 (B := 0) (C := 5) rfl rfl), (in_e SM a4 0 5 (B := 0) (C := 5) rfl rfl), (in_e SM a5 0 255 (B := 0) (C := 255) rfl rfl), in_e SM a6 (-50) 50 (B := -50) (C := 50) rfl rfl, (in_e SM a7 0 7 (B := 0) (C := 7) rfl rfl), b1_s, bs_l, bs_r, oI_e, oL_e, oR_e, i10]
  by_cases c1 : 0 ≤ a1 ∧ a1 ≤ 5
  · by_cases c2 : 0 ≤ a2 ∧ a2 ≤ 5
    · by_cases c3 : 0 ≤ a3 ∧ a3 ≤ 5
      · by_cases c4 : 0 ≤ a4 ∧ a4 ≤ 5
        · by_cases c5 : 0 ≤ a5 ∧ a5 ≤ 255
          · by_cases c6 : -50 ≤ a6 ∧ a6 ≤ 50
            · by_cases c7 : 0 ≤ a7 ∧ a7 ≤ 7
              · simp only [c1, c2, c3, c4, c5, c6, c7, not_true_eq_false, not_false_eq_true, if_true, if_false, and_self, true_and, and_true, and_false, false_and]
                rw [px.1, pm.1]
                by_cases c : n = 12
                · simp (disch := omega) only [li_le1, li_le2, li_lt1, li_lt2, li_eq1, li_eq2, li_add1, li_add2, li_sub1, li_sub2, li_mul1, li_mul2, li_div2, nI_leI, nI_ltI, nI_eq, nI_add, nI_sub, nI_mul, nI_div, rI_n, rL_n, rR_n, wI_n, wL_n, li_rI, li_rL, li_rR, li_wI, li_wL, b1_s, bs_l, bs_r, oI_e, oL_e, oR_e, wZ_0, wZ_1, wZ_b, if_true, if_false, not_true_eq_false, not_false_eq_true, c, Nat.lt_irrefl]
                  exact ⟨-3, SX, SM, rfl, rfl, h⟩
                · have c' : n < 12 := by omega
                  obtain ⟨x1, p1, q1, rfl⟩ := in_rng (a := 0) (b := 5) (by omega) c1 (by omega)
                  obtain ⟨x2, p2, q2, rfl⟩ := in_rng (a := 0) (b := 5) (by omega) c2 (by omega)
                  obtain ⟨x3, p3, q3, rfl⟩ := in_rng (a := 0) (b := 5) (by omega) c3 (by omega)
                  obtain ⟨x4, p4, q4, rfl⟩ := in_rng (a := 0) (b := 5) (by omega) c4 (by omega)
                  obtain ⟨x5, p5, q5, rfl⟩ := in_rng (a := 0) (b := 255) (by omega) c5 (by omega)
                  obtain ⟨x7, p7, q7, rfl⟩ := in_rng (a := 0) (b := 7) (by omega) c7 (by omega)
                  have m0 : max x3 x4 ≤ 5 := Nat.max_le.mpr ⟨q3, q4⟩
                  have m1 : max x2 (max x3 x4) ≤ 5 := Nat.max_le.mpr ⟨q2, m0⟩
                  have m2 : min x3 x4 ≤ 5 := Nat.le_trans (Nat.min_le_left _ _) q3
                  have m3 : min x2 (min x3 x4) ≤ 5 := Nat.le_trans (Nat.min_le_left _ _) q2
                  have m4 : min x2 (min x3 x4) ≤ max x2 (max x3 x4) := Nat.le_trans (Nat.min_le_left _ _) (Nat.le_max_left _ _)
                  have m5 : max x2 (max x3 x4) + min x2 (min x3 x4) ≤ x2 + x3 + x4 := by omega
                  have m6 : x2 + x3 + x4 ≤ max x2 (max x3 x4) + min x2 (min x3 x4) + 5 := by omega
                  unfold fX5_add fX5_judge
                  have e1 : mmax_ (nI x3) (nI x4) = nI (max x3 x4) := mmax_n (by omega) (by omega)
                  have e2 : mmax_ (nI x2) (nI (max x3 x4)) = nI (max x2 (max x3 x4)) := mmax_n (by omega) (by omega)
                  have e3 : mmin_ (nI x3) (nI x4) = nI (min x3 x4) := mmin_n (by omega) (by omega)
                  have e4 : mmin_ (nI x2) (nI (min x3 x4)) = nI (min x2 (min x3 x4)) := mmin_n (by omega) (by omega)
                  simp only [e1, e2, e3, e4]
                  have d1 := least_e SM (a := x3) (b := x4) (by omega) (by omega)
                  have d2 := least_e SM (a := x2) (b := min x3 x4) (by omega) (by omega)
                  have d3 := greatest_e SM (a := x3) (b := x4) (by omega) (by omega)
                  have d4 := greatest_e SM (a := x2) (b := max x3 x4) (by omega) (by omega)
                  generalize max x2 (max x3 x4) = top at *
                  generalize min x2 (min x3 x4) = low at *
                  have zt : (if 1 < top - low then some 0 else some 1 : Option Int32) = some (zb (decide (top - low ≤ 1))) := by
                    by_cases z : 1 < top - low
                    · rw [if_pos z]; simp [zb, show ¬ top - low ≤ 1 by omega]
                    · rw [if_neg z]; simp [zb, show top - low ≤ 1 by omega]
                  have e5 : x2 + x3 + x4 - top - low = x2 + x3 + x4 - low - top := by omega
                  simp (disch := omega) only [li_le1, li_le2, li_lt1, li_lt2, li_eq1, li_eq2, li_add1, li_add2, li_sub1, li_sub2, li_mul1, li_mul2, li_div2, nI_leI, nI_ltI, nI_eq, nI_add, nI_sub, nI_mul, nI_div, rI_n, rL_n, rR_n, wI_n, wL_n, li_rI, li_rL, li_rR, li_wI, li_wL, b1_s, bs_l, bs_r, oI_e, oL_e, oR_e, wZ_0, wZ_1, wZ_b, if_true, if_false, not_true_eq_false, not_false_eq_true, c, c', gI_pI, gI_pL, gI_pA, gI_pB, gI_pR, gI_pW, gL_pI, gL_pL, gL_pA, gL_pB, gL_pR, gL_pW, aI_pI, aI_pL, aI_pA, aI_pB, aI_pR, aI_pW, aL_pI, aL_pL, aL_pA, aL_pB, aL_pR, aL_pW, gR_pI, gR_pL, gR_pA, gR_pB, gR_pR, gR_pW, px.1, pm.1, and_self, Nat.add_sub_cancel, Nat.reduceEqDiff, false_and, d1, d2, d3, d4, zt, e5]
                  have fin : ∀ SX' , (SX' = pA_ (pA_ (pI_ (pA_ (pA_ (pA_ (pA_ SX 50 n (nI x1)) 53 n (nI x5)) 54 n a6) 55 n (nI x7)) 49 6 (nI (n + 1))) 51 n (nI (x2 + x3 + x4 - low - top))) 52 n (zb (decide (top - low ≤ 1)))) → Rel_ SX' (pI_ (pA_ (pA_ (pA_ (pA_ (pA_ (pA_ SM 22 n (nI x1)) 23 n (nI (x2 + x3 + x4 - low - top))) 24 n (zb (decide (top - low ≤ 1)))) 25 n (nI x5)) 26 n a6) 27 n (nI x7)) 0 28 (nI (n + 1))) := by
                    intro SX' eS
                    have F1 : Fr (fun a b => (a == 49 && b == 6) || (decide (50 ≤ a) && decide (a ≤ 55))) SX SX' := by
                      rw [eS]; exact Fr.pA (by simp) (Fr.pA (by simp) (Fr.pI (by simp) (Fr.pA (by simp) (Fr.pA (by simp) (Fr.pA (by simp) (Fr.pA (by simp) (Fr.refl _ _)))))))
                    have F2 : Fr (fun a b => (a == 0 && b == 28) || (decide (22 ≤ a) && decide (a ≤ 27))) SM (pI_ (pA_ (pA_ (pA_ (pA_ (pA_ (pA_ SM 22 n (nI x1)) 23 n (nI (x2 + x3 + x4 - low - top))) 24 n (zb (decide (top - low ≤ 1)))) 25 n (nI x5)) 26 n a6) 27 n (nI x7)) 0 28 (nI (n + 1))) := Fr.pI (by simp) (Fr.pA (by simp) (Fr.pA (by simp) (Fr.pA (by simp) (Fr.pA (by simp) (Fr.pA (by simp) (Fr.pA (by simp) (Fr.refl _ _)))))))
                    refine ⟨hB.fr F1 F2 (fun k j z => by simp [plX, plM, Nat.ble_eq] at z ⊢; omega) (fun k j z => by simp [plX, plM, Nat.ble_eq] at z ⊢; omega), hS.fr F1 F2 (fun k j z => by simp [plX, plM, Nat.ble_eq] at z ⊢; omega) (fun k j z => by simp [plX, plM, Nat.ble_eq] at z ⊢; omega), ⟨n + 1, at_ lo n x1, at_ gd n (x2 + x3 + x4 - low - top), at_ st n x5, at_ nm n x7, at_ ag n (decide (top - low ≤ 1)), at_ dr n a6, ⟨by omega, fun s hs => ?_⟩, px.push ?_ ?_ ?_ ?_ ?_ ?_ ?_, pm.push ?_ ?_ ?_ ?_ ?_ ?_ ?_⟩, hT.fr F1 F2 (fun k j z => by simp [plX, plM, Nat.ble_eq] at z ⊢; omega) (fun k j z => by simp [plX, plM, Nat.ble_eq] at z ⊢; omega), hL.fr F1 F2 (fun k j z => by simp [plX, plM, Nat.ble_eq] at z ⊢; omega) (fun k j z => by simp [plX, plM, Nat.ble_eq] at z ⊢; omega), hH.fr F1 F2 (fun k j z => by simp [plX, plM, Nat.ble_eq] at z ⊢; omega) (fun k j z => by simp [plX, plM, Nat.ble_eq] at z ⊢; omega), by rw [F1.gI (by simp), F2.gI (by simp)]; exact hE⟩
                    · by_cases e : s = n
                      · subst e
                        simp only [at_s]
                        have z1 := (fa_le _ _).mp c6.1
                        have z2 := (fa_le _ _).mp c6.2
                        have z3 : (-50 : Int32).toInt = -50 := by decide
                        have z4 : (50 : Int32).toInt = 50 := by decide
                        omega
                      · simp only [at_o _ _ e]; exact pb s (by omega)
                    all_goals first | (intro s; simp [eS, gI_pI, gI_pL, gI_pA, gI_pB, gI_pR, gI_pW, gL_pI, gL_pL, gL_pA, gL_pB, gL_pR, gL_pW, aI_pI, aI_pL, aI_pA, aI_pB, aI_pR, aI_pW, aL_pI, aL_pL, aL_pA, aL_pB, aL_pR, aL_pW, gR_pI, gR_pL, gR_pA, gR_pB, gR_pR, gR_pW]) | simp [eS, gI_pI, gI_pL, gI_pA, gI_pB, gI_pR, gI_pW, gL_pI, gL_pL, gL_pA, gL_pB, gL_pR, gL_pW, aI_pI, aI_pL, aI_pA, aI_pB, aI_pR, aI_pW, aL_pI, aL_pL, aL_pA, aL_pB, aL_pR, aL_pW, gR_pI, gR_pL, gR_pA, gR_pB, gR_pR, gR_pW]
                  by_cases z : 1 < top - low
                  · rw [if_pos z]
                    refine ⟨_, _, _, rfl, rfl, fin _ ?_⟩
                    rw [show decide (top - low ≤ 1) = false by simp; omega]; rfl
                  · rw [if_neg z]
                    refine ⟨_, _, _, rfl, rfl, fin _ ?_⟩
                    rw [show decide (top - low ≤ 1) = true by simp; omega]; rfl
              · exact ⟨-1, SX, SM, by simp only [c1, c2, c3, c4, c5, c6, c7, not_true_eq_false, not_false_eq_true, if_true, if_false, and_self, true_and, and_true, and_false, false_and], by simp only [c1, c2, c3, c4, c5, c6, c7, not_true_eq_false, not_false_eq_true, if_true, if_false, and_self, true_and, and_true, and_false, false_and], h⟩
            · exact ⟨-1, SX, SM, by simp only [c1, c2, c3, c4, c5, c6, not_true_eq_false, not_false_eq_true, if_true, if_false, and_self, true_and, and_true, and_false, false_and], by simp only [c1, c2, c3, c4, c5, c6, not_true_eq_false, not_false_eq_true, if_true, if_false, and_self, true_and, and_true, and_false, false_and], h⟩
          · exact ⟨-1, SX, SM, by simp only [c1, c2, c3, c4, c5, not_true_eq_false, not_false_eq_true, if_true, if_false, and_self, true_and, and_true, and_false, false_and], by simp only [c1, c2, c3, c4, c5, not_true_eq_false, not_false_eq_true, if_true, if_false, and_self, true_and, and_true, and_false, false_and], h⟩
        · exact ⟨-1, SX, SM, by simp only [c1, c2, c3, c4, not_true_eq_false, not_false_eq_true, if_true, if_false, and_self, true_and, and_true, and_false, false_and, ite_self], by simp only [c1, c2, c3, c4, not_true_eq_false, not_false_eq_true, if_true, if_false, and_self, true_and, and_true, and_false, false_and], h⟩
      · exact ⟨-1, SX, SM, by simp only [c1, c2, c3, not_true_eq_false, not_false_eq_true, if_true, if_false, and_self, true_and, and_true, and_false, false_and, ite_self], by simp only [c1, c2, c3, not_true_eq_false, not_false_eq_true, if_true, if_false, and_self, true_and, and_true, and_false, false_and], h⟩
    · exact ⟨-1, SX, SM, by simp only [c1, c2, not_true_eq_false, not_false_eq_true, if_true, if_false, and_self, true_and, and_true, and_false, false_and, ite_self], by simp only [c1, c2, not_true_eq_false, not_false_eq_true, if_true, if_false, and_self, true_and, and_true, and_false, false_and], h⟩
  · exact ⟨-1, SX, SM, by simp only [c1, not_true_eq_false, not_false_eq_true, if_true, if_false, and_self, true_and, and_true, and_false, false_and], by simp only [c1, not_true_eq_false, not_false_eq_true, if_true, if_false, and_self, true_and, and_true, and_false, false_and], h⟩
