theorem bit_e (S : St) {v : Int64} {x y : Nat} (hx : x < 8) (hy : y < 8) : fX11_bit S v (nI x) (nI y) = some (zb (lt_ v (8 * y + x))) := by
  unfold fX11_bit fX11_squareAt
  simp (disch := omega) only [li_le1, li_le2, li_lt1, li_lt2, li_eq1, li_eq2, li_add1, li_add2, li_sub1, li_sub2, li_mul1, li_mul2, li_div2, nI_leI, nI_ltI, nI_eq, nI_add, nI_sub, nI_mul, nI_div, rI_n, rL_n, rR_n, wI_n, wL_n, li_rI, li_rL, li_rR, li_wI, li_wL, b1_s, bs_l, bs_r, oI_e, oL_e, oR_e, wZ_0, wZ_1, wZ_b, if_true, if_false, not_true_eq_false, not_false_eq_true]
  rw [show y * 8 + x = 8 * y + x by omega, bit1_l (by omega)]
  cases lt_ v (8 * y + x) <;> rfl
theorem withBit_e (S : St) {v : Int64} {x y : Nat} {b : Bool} (hx : x < 8) (hy : y < 8) : ∃ v', fX11_withBit S v (nI x) (nI y) (zb b) = some v' ∧ ∀ q, q < 64 → lt_ v' q = if q = 8 * y + x then b else lt_ v q := by
  unfold fX11_withBit fX11_squareAt
  simp (disch := omega) only [li_le1, li_le2, li_lt1, li_lt2, li_eq1, li_eq2, li_add1, li_add2, li_sub1, li_sub2, li_mul1, li_mul2, li_div2, nI_leI, nI_ltI, nI_eq, nI_add, nI_sub, nI_mul, nI_div, rI_n, rL_n, rR_n, wI_n, wL_n, li_rI, li_rL, li_rR, li_wI, li_wL, b1_s, bs_l, bs_r, oI_e, oL_e, oR_e, wZ_0, wZ_1, wZ_b, if_true, if_false, not_true_eq_false, not_false_eq_true, zb_0]
  rw [show y * 8 + x = 8 * y + x by omega]
  cases b with
  | false =>
    refine ⟨_, if_pos rfl, fun q hq => ?_⟩
    rw [l_and, l_xor, one_shlL _ (by omega) hq, l_m1 q hq]
    by_cases e : q = 8 * y + x
    · simp [e]
    · simp [e]
  | true =>
    refine ⟨_, if_neg (by simp), fun q hq => ?_⟩
    rw [l_or, one_shlL _ (by omega) hq]
    by_cases e : q = 8 * y + x
    · simp [e]
    · simp [e]
theorem hasSq_x {S : St} {k w h : Nat} {cr : Nat → Bool} {gr : Nat → Nat} (hb : BX S k w h cr gr) (a1 a2 : Int32) : fX1_hasSquare k S a1 a2 = some (if (0 ≤ a1 ∧ a1 ≤ nI w - 1) ∧ (0 ≤ a2 ∧ a2 ≤ nI h - 1) then 1 else 0) := by
  unfold fX1_hasSquare
  simp only [within_e, b1_s, bs_l, bs_r, oI_e, oL_e, oR_e, i10, hb.1, hb.2.1]
  by_cases c1 : 0 ≤ a1 ∧ a1 ≤ nI w - 1
  · by_cases c2 : 0 ≤ a2 ∧ a2 ≤ nI h - 1
    · simp only [c1, c2, not_true_eq_false, not_false_eq_true, if_true, if_false, and_self, true_and, and_true, and_false, false_and]
    · simp only [c1, c2, not_true_eq_false, not_false_eq_true, if_true, if_false, and_self, true_and, and_true, and_false, false_and]
  · simp only [c1, not_true_eq_false, not_false_eq_true, if_true, if_false, and_self, true_and, and_true, and_false, false_and]
theorem isSq_m {S : St} {w h : Nat} (h1 : gI_ S 0 0 = nI w) (h2 : gI_ S 0 1 = nI h) (a1 a2 : Int32) : fX12_isSquare S a1 a2 = some (if (0 ≤ a1 ∧ a1 ≤ nI w - 1) ∧ (0 ≤ a2 ∧ a2 ≤ nI h - 1) then 1 else 0) := by
  unfold fX12_isSquare
  rw [h1, h2, in_e S a1 0 (nI w - 1) (B := 0) rfl rfl, in_e S a2 0 (nI h - 1) (B := 0) rfl rfl]
  simp only [b1_s, bs_l, bs_r, oI_e, oL_e, oR_e, i10]
  by_cases c1 : 0 ≤ a1 ∧ a1 ≤ nI w - 1
  · by_cases c2 : 0 ≤ a2 ∧ a2 ≤ nI h - 1
    · simp only [c1, c2, not_true_eq_false, not_false_eq_true, if_true, if_false, and_self, true_and, and_true, and_false, false_and]
    · simp only [c1, c2, not_true_eq_false, not_false_eq_true, if_true, if_false, and_self, true_and, and_true, and_false, false_and]
  · simp only [c1, not_true_eq_false, not_false_eq_true, if_true, if_false, and_self, true_and, and_true, and_false, false_and]
theorem sim_crack : ∀ (SX SM : St) (a1 a2 a3 : Int32) (_ : a3 = 0 ∨ a3 = 1), Rel_ SX SM → ∃ (r : Int32) (S1 S2 : St), fX11_crack SX a1 a2 a3 = some (r, S1) ∧ fX12_crack SM a1 a2 a3 = some (r, S2) ∧ Rel_ S1 S2 := by
  intro SX SM a1 a2 a3 h3 h
  obtain ⟨hB, hS, hP, hT, hL, hH, hE⟩ := id h
  obtain ⟨w, v, cr, gr, hb, ha, ⟨nw, dc, hc⟩⟩ := hB
  obtain ⟨b3, rfl⟩ : ∃ b, a3 = zb b := by rcases h3 with rfl | rfl; exact ⟨false, rfl⟩; exact ⟨true, rfl⟩
  unfold fX11_crack fX12_crack
  rw [hasSq_x hb.2.2.1, isSq_m hb.2.2.2.1 hb.2.2.2.2.1]
  simp only [b1_s, bs_l, bs_r, oI_e, oL_e, oR_e, i10]
  by_cases c : (0 ≤ a1 ∧ a1 ≤ nI w - 1) ∧ (0 ≤ a2 ∧ a2 ≤ nI v - 1)
  · obtain ⟨⟨w1, w2, v1, v2⟩, hg, hx, hm1, hm2, hm⟩ := id hb
    obtain ⟨x, hx1, rfl⟩ := (in_nat (by omega)).mp c.1
    obtain ⟨y, hy1, rfl⟩ := (in_nat (by omega)).mp c.2
    obtain ⟨SX', SM', e1, e2, act, f1, f2⟩ := keep_sim hb ha
    obtain ⟨u, e3, hu⟩ := withBit_e SX' (v := gL_ SX' 1 2) (x := x) (y := y) (b := b3) (by omega) (by omega)
    have g1 : gL_ SX' 1 2 = gL_ SX 1 2 := f1.gL (by simp)
    have g2 : aI_ SM' 1 (8 * y + x) = zb (cr (8 * y + x)) := by rw [f2.aI (by simp)]; simpa using (hm (8 * y + x) (by omega)).1
    have g3 : lt_ (gL_ SX 1 2) (8 * y + x) = cr (8 * y + x) := hx.2.2.1 _ (by omega)
    have g4 : (if cr (8 * y + x) = false then some 0 else some 1 : Option Int32) = some (zb (cr (8 * y + x))) := by cases cr (8 * y + x) <;> rfl
    simp only [c, not_true_eq_false, not_false_eq_true, if_true, if_false, and_self, true_and, and_true, and_false, false_and, e1, e2, b1_s, bs_l, bs_r, oI_e, oL_e, oR_e]
    simp only [bit_e SX' (show x < 8 by omega) (show y < 8 by omega), e3, b1_s, bs_l, bs_r, oI_e, oL_e, oR_e]
    simp (disch := omega) only [li_le1, li_le2, li_lt1, li_lt2, li_eq1, li_eq2, li_add1, li_add2, li_sub1, li_sub2, li_mul1, li_mul2, li_div2, nI_leI, nI_ltI, nI_eq, nI_add, nI_sub, nI_mul, nI_div, rI_n, rL_n, rR_n, wI_n, wL_n, li_rI, li_rL, li_rR, li_wI, li_wL, b1_s, bs_l, bs_r, oI_e, oL_e, oR_e, wZ_0, wZ_1, wZ_b, if_true, if_false, not_true_eq_false, not_false_eq_true, g2, zb_0, g4]
    refine ⟨_, _, _, rfl, by rw [g1, g3], ?_⟩
    have F1 : Fr (fun a b => (decide (5 ≤ a) && decide (a ≤ 20)) || (a == 3 && (b == 1 || b == 2)) || (a == 1 && b == 2)) SX (pL_ SX' 1 2 u) := Fr.pL (by simp) (f1.mono (by intro a b z; simp at z ⊢; omega))
    have F2 : Fr (fun a b => a == 4 || a == 5 || (a == 0 && b == 6) || a == 1) SM (pA_ SM' 1 (8 * y + x) (zb b3)) := Fr.pA (by simp) (f2.mono (by intro a b z; simp at z ⊢; omega))
    refine ⟨?_, hS.fr F1 F2 (fun k j z => by simp [plX, plM, Nat.ble_eq] at z ⊢; omega) (fun k j z => by simp [plX, plM, Nat.ble_eq] at z ⊢; omega), hP.fr F1 F2 (fun k j z => by simp [plX, plM, Nat.ble_eq] at z ⊢; omega) (fun k j z => by simp [plX, plM, Nat.ble_eq] at z ⊢; omega), hT.fr F1 F2 (fun k j z => by simp [plX, plM, Nat.ble_eq] at z ⊢; omega) (fun k j z => by simp [plX, plM, Nat.ble_eq] at z ⊢; omega), hL.fr F1 F2 (fun k j z => by simp [plX, plM, Nat.ble_eq] at z ⊢; omega) (fun k j z => by simp [plX, plM, Nat.ble_eq] at z ⊢; omega), hH.fr F1 F2 (fun k j z => by simp [plX, plM, Nat.ble_eq] at z ⊢; omega) (fun k j z => by simp [plX, plM, Nat.ble_eq] at z ⊢; omega), by rw [F1.gI (by simp), F2.gI (by simp)]; exact hE⟩
    obtain ⟨n, nx, ac, ag, act⟩ := act
    refine ⟨w, v, fun q => if q = 8 * y + x then b3 else cr q, gr, ⟨⟨w1, w2, v1, v2⟩, hg, ⟨?_, ?_, fun q hq => ?_, fun q hq => ?_⟩, ?_, ?_, fun q hq => ?_⟩, ⟨n, nx, ac, ag, act.fr (p := fun a b => a == 1) (r := fun a b => a == 1) (Fr.pL (by simp) (Fr.refl _ _)) (Fr.pA (by simp) (Fr.refl _ _)) rfl rfl (fun k j z1 z2 => by simp; omega) rfl (fun j => rfl) (fun j => rfl)⟩, ⟨nw, dc, hc.fr F1 F2 rfl (fun j => rfl) rfl (fun j => rfl)⟩⟩
    · rw [F1.gI (by simp)]; exact hx.1
    · rw [F1.gI (by simp)]; exact hx.2.1
    · simp only [gI_pI, gI_pL, gI_pA, gI_pB, gI_pR, gI_pW, gL_pI, gL_pL, gL_pA, gL_pB, gL_pR, gL_pW, aI_pI, aI_pL, aI_pA, aI_pB, aI_pR, aI_pW, aL_pI, aL_pL, aL_pA, aL_pB, aL_pR, aL_pW, gR_pI, gR_pL, gR_pA, gR_pB, gR_pR, gR_pW, and_self, if_true]
      rw [hu q hq, g1, hx.2.2.1 q hq]
    · rw [F1.aI (by simp)]; exact hx.2.2.2 q hq
    · rw [F2.gI (by simp)]; exact hm1
    · rw [F2.gI (by simp)]; exact hm2
    · simp only [gI_pI, gI_pL, gI_pA, gI_pB, gI_pR, gI_pW, gL_pI, gL_pL, gL_pA, gL_pB, gL_pR, gL_pW, aI_pI, aI_pL, aI_pA, aI_pB, aI_pR, aI_pW, aL_pI, aL_pL, aL_pA, aL_pB, aL_pR, aL_pW, gR_pI, gR_pL, gR_pA, gR_pB, gR_pR, gR_pW, Nat.reduceEqDiff, false_and, if_false, true_and, Nat.zero_add]
      rw [f2.aI (by simp), f2.aI (by simp)]
      have := hm q hq
      rw [Nat.zero_add] at this
      by_cases e : q = 8 * y + x
      · simp only [e, if_true, true_and]; rw [e] at this; exact this.2
      · simp only [e, if_false]; exact this
  · exact ⟨-1, SX, SM, by simp only [c, not_true_eq_false, not_false_eq_true, if_true, if_false, and_self, true_and, and_true, and_false, false_and], by simp only [c, not_true_eq_false, not_false_eq_true, if_true, if_false, and_self, true_and, and_true, and_false, false_and], h⟩
theorem sim_grain : ∀ (SX SM : St) (a1 a2 a3 : Int32), Rel_ SX SM → ∃ (r : Int32) (S1 S2 : St), fX11_grain SX a1 a2 a3 = some (r, S1) ∧ fX12_grain SM a1 a2 a3 = some (r, S2) ∧ Rel_ S1 S2 := by
  intro SX SM a1 a2 a3 h
  obtain ⟨hB, hS, hP, hT, hL, hH, hE⟩ := id h
  obtain ⟨w, v, cr, gr, hb, ha, ⟨nw, dc, hc⟩⟩ := hB
  unfold fX11_grain fX12_grain
  rw [hasSq_x hb.2.2.1, isSq_m hb.2.2.2.1 hb.2.2.2.2.1]
  simp only [b1_s, bs_l, bs_r, oI_e, oL_e, oR_e, i10, within_e, (in_e SM a3 0 9 (B := 0) (C := 9) rfl rfl)]
  by_cases c : (0 ≤ a1 ∧ a1 ≤ nI w - 1) ∧ (0 ≤ a2 ∧ a2 ≤ nI v - 1)
  · by_cases c3 : 0 ≤ a3 ∧ a3 ≤ 9
    · obtain ⟨⟨w1, w2, v1, v2⟩, hg, hx, hm1, hm2, hm⟩ := id hb
      obtain ⟨x, hx1, rfl⟩ := (in_nat (by omega)).mp c.1
      obtain ⟨y, hy1, rfl⟩ := (in_nat (by omega)).mp c.2
      obtain ⟨g, hg1, hg2, rfl⟩ := in_rng (a := 0) (b := 9) (by omega) c3 (by omega)
      obtain ⟨SX', SM', e1, e2, act, f1, f2⟩ := keep_sim hb ha
      have g1 : aI_ SX' 2 (8 * y + x) = nI (gr (8 * y + x)) := by rw [f1.aI (by simp)]; exact hx.2.2.2 _ (by omega)
      have g2 : aI_ SM' 2 (8 * y + x) = nI (gr (8 * y + x)) := by rw [f2.aI (by simp)]; simpa using (hm (8 * y + x) (by omega)).2
      simp only [c, c3, not_true_eq_false, not_false_eq_true, if_true, if_false, and_self, true_and, and_true, and_false, false_and, e1, e2, b1_s, bs_l, bs_r, oI_e, oL_e, oR_e, fX11_squareAt]
      simp (disch := omega) only [li_le1, li_le2, li_lt1, li_lt2, li_eq1, li_eq2, li_add1, li_add2, li_sub1, li_sub2, li_mul1, li_mul2, li_div2, nI_leI, nI_ltI, nI_eq, nI_add, nI_sub, nI_mul, nI_div, rI_n, rL_n, rR_n, wI_n, wL_n, li_rI, li_rL, li_rR, li_wI, li_wL, b1_s, bs_l, bs_r, oI_e, oL_e, oR_e, wZ_0, wZ_1, wZ_b, if_true, if_false, not_true_eq_false, not_false_eq_true, Nat.mul_comm y 8, g1, g2]
      refine ⟨_, _, _, rfl, rfl, ?_⟩
      have F1 : Fr (fun a b => (decide (5 ≤ a) && decide (a ≤ 20)) || (a == 3 && (b == 1 || b == 2)) || a == 2) SX (pA_ SX' 2 (8 * y + x) (nI g)) := Fr.pA (by simp) (f1.mono (by intro a b z; simp at z ⊢; omega))
      have F2 : Fr (fun a b => a == 4 || a == 5 || (a == 0 && b == 6) || a == 2) SM (pA_ SM' 2 (8 * y + x) (nI g)) := Fr.pA (by simp) (f2.mono (by intro a b z; simp at z ⊢; omega))
      refine ⟨?_, hS.fr F1 F2 (fun k j z => by simp [plX, plM, Nat.ble_eq] at z ⊢; omega) (fun k j z => by simp [plX, plM, Nat.ble_eq] at z ⊢; omega), hP.fr F1 F2 (fun k j z => by simp [plX, plM, Nat.ble_eq] at z ⊢; omega) (fun k j z => by simp [plX, plM, Nat.ble_eq] at z ⊢; omega), hT.fr F1 F2 (fun k j z => by simp [plX, plM, Nat.ble_eq] at z ⊢; omega) (fun k j z => by simp [plX, plM, Nat.ble_eq] at z ⊢; omega), hL.fr F1 F2 (fun k j z => by simp [plX, plM, Nat.ble_eq] at z ⊢; omega) (fun k j z => by simp [plX, plM, Nat.ble_eq] at z ⊢; omega), hH.fr F1 F2 (fun k j z => by simp [plX, plM, Nat.ble_eq] at z ⊢; omega) (fun k j z => by simp [plX, plM, Nat.ble_eq] at z ⊢; omega), by rw [F1.gI (by simp), F2.gI (by simp)]; exact hE⟩
      obtain ⟨n, nx, ac, ag, act⟩ := act
      refine ⟨w, v, cr, fun q => if q = 8 * y + x then g else gr q, ⟨⟨w1, w2, v1, v2⟩, fun q hq => ?_, ⟨?_, ?_, fun q hq => ?_, fun q hq => ?_⟩, ?_, ?_, fun q hq => ?_⟩, ⟨n, nx, ac, ag, act.fr (p := fun a b => a == 2) (r := fun a b => a == 2) (Fr.pA (by simp) (Fr.refl _ _)) (Fr.pA (by simp) (Fr.refl _ _)) rfl rfl (fun k j z1 z2 => by simp; omega) rfl (fun j => rfl) (fun j => rfl)⟩, ⟨nw, dc, hc.fr F1 F2 rfl (fun j => rfl) rfl (fun j => rfl)⟩⟩
      · by_cases e : q = 8 * y + x
        · simp only [e, if_true]; exact hg2
        · simp only [e, if_false]; exact hg q hq
      · rw [F1.gI (by simp)]; exact hx.1
      · rw [F1.gI (by simp)]; exact hx.2.1
      · rw [F1.gL (by simp)]; exact hx.2.2.1 q hq
      · simp only [gI_pI, gI_pL, gI_pA, gI_pB, gI_pR, gI_pW, gL_pI, gL_pL, gL_pA, gL_pB, gL_pR, gL_pW, aI_pI, aI_pL, aI_pA, aI_pB, aI_pR, aI_pW, aL_pI, aL_pL, aL_pA, aL_pB, aL_pR, aL_pW, gR_pI, gR_pL, gR_pA, gR_pB, gR_pR, gR_pW, true_and]
        rw [f1.aI (by simp)]
        by_cases e : q = 8 * y + x
        · simp only [e, if_true]
        · simp only [e, if_false]; exact hx.2.2.2 q hq
      · rw [F2.gI (by simp)]; exact hm1
      · rw [F2.gI (by simp)]; exact hm2
      · simp only [gI_pI, gI_pL, gI_pA, gI_pB, gI_pR, gI_pW, gL_pI, gL_pL, gL_pA, gL_pB, gL_pR, gL_pW, aI_pI, aI_pL, aI_pA, aI_pB, aI_pR, aI_pW, aL_pI, aL_pL, aL_pA, aL_pB, aL_pR, aL_pW, gR_pI, gR_pL, gR_pA, gR_pB, gR_pR, gR_pW, Nat.reduceEqDiff, false_and, if_false, true_and, Nat.zero_add]
        rw [f2.aI (by simp), f2.aI (by simp)]
        have := hm q hq
        rw [Nat.zero_add] at this
        by_cases e : q = 8 * y + x
        · simp only [e, if_true, and_true]; rw [e] at this; exact this.1
        · simp only [e, if_false]; exact this
    · exact ⟨-1, SX, SM, by simp only [c, c3, not_true_eq_false, not_false_eq_true, if_true, if_false, and_self, true_and, and_true, and_false, false_and], by simp only [c, c3, not_true_eq_false, not_false_eq_true, if_true, if_false, and_self, true_and, and_true, and_false, false_and], h⟩
  · exact ⟨-1, SX, SM, by simp only [c, not_true_eq_false, not_false_eq_true, if_true, if_false, and_self, true_and, and_true, and_false, false_and], by simp only [c, not_true_eq_false, not_false_eq_true, if_true, if_false, and_self, true_and, and_true, and_false, false_and], h⟩
theorem undo_cp {S : St} {m : Nat} {cr : Nat → Bool} {gr : Nat → Nat} (hb : BM S 4 5 (64 * m) cr gr) (h2 : gI_ S 0 6 = nI m) (hm : m ≤ 7) : ∃ S', lp (fun w22 : Int32 × St => bX12_undo_22 w22.1 w22.2) 5000 (0, S) = some S' ∧ BM S' 1 2 0 cr gr ∧ Fr (fun a _ => a == 1 || a == 2) S S' := by
  obtain ⟨S', hl, hF, hz⟩ := lp_inv (body := fun w22 : Int32 × St => bX12_undo_22 w22.1 w22.2) (fun i s => s.1 = nI i ∧ Fr (fun a _ => a == 1 || a == 2) S s.2 ∧ (∀ q, q < i → aI_ s.2 1 q = zb (cr q) ∧ aI_ s.2 2 q = nI (gr q))) (fun r => Fr (fun a _ => a == 1 || a == 2) S r ∧ (∀ q, q < 64 → aI_ r 1 q = zb (cr q) ∧ aI_ r 2 q = nI (gr q))) 64 (m := 5000) (s := (0, S)) (by omega) ⟨rfl, Fr.refl _ _, fun q hq => absurd hq (by omega)⟩
    (fun i s hi ⟨h1, h3, h4⟩ => Or.inl ⟨(nI (i + 1), pA_ (pA_ s.2 1 i (zb (cr i))) 2 i (nI (gr i))), by
      have hn : ¬ 64 ≤ i := by omega
      unfold bX12_undo_22
      have g : gI_ s.2 0 6 = nI m := by rw [h3.gI (by simp)]; exact h2
      have g1 : aI_ s.2 4 (64 * m + i) = zb (cr i) := by rw [h3.aI (by simp)]; exact (hb i (by omega)).1
      have g2 : aI_ s.2 5 (64 * m + i) = nI (gr i) := by rw [h3.aI (by simp)]; exact (hb i (by omega)).2
      rw [h1]
      simp (disch := omega) only [li_le1, li_le2, li_lt1, li_lt2, li_eq1, li_eq2, li_add1, li_add2, li_sub1, li_sub2, li_mul1, li_mul2, li_div2, nI_leI, nI_ltI, nI_eq, nI_add, nI_sub, nI_mul, nI_div, rI_n, rL_n, rR_n, wI_n, wL_n, li_rI, li_rL, li_rR, li_wI, li_wL, b1_s, bs_l, bs_r, oI_e, oL_e, oR_e, wZ_0, wZ_1, wZ_b, if_true, if_false, not_true_eq_false, not_false_eq_true, hn, g, g1, gI_pI, gI_pL, gI_pA, gI_pB, gI_pR, gI_pW, gL_pI, gL_pL, gL_pA, gL_pB, gL_pR, gL_pW, aI_pI, aI_pL, aI_pA, aI_pB, aI_pR, aI_pW, aL_pI, aL_pL, aL_pA, aL_pB, aL_pR, aL_pW, gR_pI, gR_pL, gR_pA, gR_pB, gR_pR, gR_pW, Nat.reduceEqDiff, and_false, false_and, g2], rfl, (h3.pA (by simp)).pA (by simp), fun q hq => by
      simp only [aI_pA]
      by_cases e : q = i
      · simp [e]
      · simp [e]; exact h4 q (by omega)⟩)
    (fun s ⟨h1, h3, h4⟩ => ⟨s.2, by
      unfold bX12_undo_22
      rw [h1]
      simp (disch := omega) only [li_le1, li_le2, li_lt1, li_lt2, li_eq1, li_eq2, li_add1, li_add2, li_sub1, li_sub2, li_mul1, li_mul2, li_div2, nI_leI, nI_ltI, nI_eq, nI_add, nI_sub, nI_mul, nI_div, rI_n, rL_n, rR_n, wI_n, wL_n, li_rI, li_rL, li_rR, li_wI, li_wL, b1_s, bs_l, bs_r, oI_e, oL_e, oR_e, wZ_0, wZ_1, wZ_b, if_true, if_false, not_true_eq_false, not_false_eq_true, Nat.le_refl], h3, h4⟩)
  exact ⟨S', hl, fun q hq => by rw [Nat.zero_add]; exact hz q hq, hF⟩
theorem sim_undo : ∀ (SX SM : St), Rel_ SX SM → ∃ (r : Int32) (S1 S2 : St), fX11_undo SX = some (r, S1) ∧ fX12_undo SM = some (r, S2) ∧ Rel_ S1 S2 := by
  intro SX SM h
  obtain ⟨hB, hS, hP, hT, hL, hH, hE⟩ := id h
  obtain ⟨w, v, cr, gr, hb, ⟨n, nx, ac, ag, ⟨hn, hx⟩, a1, a2, a3, a4⟩, ⟨nw, dc, hc⟩⟩ := hB
  unfold fX11_undo fX12_undo fX0_takeBack
  rw [a2, a3, a1]
  simp (disch := omega) only [li_le1, li_le2, li_lt1, li_lt2, li_eq1, li_eq2, li_add1, li_add2, li_sub1, li_sub2, li_mul1, li_mul2, li_div2, nI_leI, nI_ltI, nI_eq, nI_add, nI_sub, nI_mul, nI_div, rI_n, rL_n, rR_n, wI_n, wL_n, li_rI, li_rL, li_rR, li_wI, li_wL, b1_s, bs_l, bs_r, oI_e, oL_e, oR_e, wZ_0, wZ_1, wZ_b, if_true, if_false, not_true_eq_false, not_false_eq_true]
  by_cases c : n = 0
  · simp only [c, if_true]
    exact ⟨-4, SX, SM, rfl, rfl, h⟩
  · have e0 : (if nx = 0 then some 7 else some (nI (nx - 1)) : Option Int32) = some (nI ((nx + 7) % 8)) ∨ True := Or.inr trivial
    have e1 : (if gI_ SX 3 1 = 0 then some 7 else some ((gI_ SX 3 1) - 1) : Option Int32) = some (nI ((nx + 7) % 8)) := by
      rw [a1]
      by_cases z : nx = 0
      · subst z; rfl
      · simp (disch := omega) only [li_le1, li_le2, li_lt1, li_lt2, li_eq1, li_eq2, li_add1, li_add2, li_sub1, li_sub2, li_mul1, li_mul2, li_div2, nI_leI, nI_ltI, nI_eq, nI_add, nI_sub, nI_mul, nI_div, rI_n, rL_n, rR_n, wI_n, wL_n, li_rI, li_rL, li_rR, li_wI, li_wL, b1_s, bs_l, bs_r, oI_e, oL_e, oR_e, wZ_0, wZ_1, wZ_b, if_true, if_false, not_true_eq_false, not_false_eq_true, z]
        rw [show (nx + 7) % 8 = nx - 1 by omega]
    rw [a1] at e1
    simp (disch := omega) only [li_le1, li_le2, li_lt1, li_lt2, li_eq1, li_eq2, li_add1, li_add2, li_sub1, li_sub2, li_mul1, li_mul2, li_div2, nI_leI, nI_ltI, nI_eq, nI_add, nI_sub, nI_mul, nI_div, rI_n, rL_n, rR_n, wI_n, wL_n, li_rI, li_rL, li_rR, li_wI, li_wL, b1_s, bs_l, bs_r, oI_e, oL_e, oR_e, wZ_0, wZ_1, wZ_b, if_true, if_false, not_true_eq_false, not_false_eq_true] at e1
    obtain ⟨b1, b2, b3⟩ := a4 (n - 1) (by omega)
    rw [show (nx + 8 - n + (n - 1)) % 8 = (nx + 7) % 8 by omega] at b1
    have b1' : BX (pI_ (pI_ SX 3 1 (nI ((nx + 7) % 8))) 3 2 (nI (n - 1))) (5 + 2 * ((nx + 7) % 8)) w v (ac (n - 1)) (ag (n - 1)) := b1.fr (p := fun a _ => a == 3) (Fr.pI (by simp) (Fr.pI (by simp) (Fr.refl _ _))) (fun j => by simp; omega) (fun j => by simp; omega)
    obtain ⟨SX', e2, b4, f1⟩ := copy_bx (k0 := 1) b1'
    obtain ⟨SM', e3, b5, f2⟩ := undo_cp (S := pI_ SM 0 6 (nI (n - 1))) (m := n - 1) (cr := ac (n - 1)) (gr := ag (n - 1)) (fun q hq => by simp only [gI_pI, gI_pL, gI_pA, gI_pB, gI_pR, gI_pW, gL_pI, gL_pL, gL_pA, gL_pB, gL_pR, gL_pW, aI_pI, aI_pL, aI_pA, aI_pB, aI_pR, aI_pW, aL_pI, aL_pL, aL_pA, aL_pB, aL_pR, aL_pW, gR_pI, gR_pL, gR_pA, gR_pB, gR_pR, gR_pW]; exact b2 q hq) (by simp [gI_pI, gI_pL, gI_pA, gI_pB, gI_pR, gI_pW, gL_pI, gL_pL, gL_pA, gL_pB, gL_pR, gL_pW, aI_pI, aI_pL, aI_pA, aI_pB, aI_pR, aI_pW, aL_pI, aL_pL, aL_pA, aL_pB, aL_pR, aL_pW, gR_pI, gR_pL, gR_pA, gR_pB, gR_pR, gR_pW]) (by omega)
    have g1 : gI_ SX' 3 2 = nI (n - 1) := by rw [f1.gI (by simp)]; simp [gI_pI, gI_pL, gI_pA, gI_pB, gI_pR, gI_pW, gL_pI, gL_pL, gL_pA, gL_pB, gL_pR, gL_pW, aI_pI, aI_pL, aI_pA, aI_pB, aI_pR, aI_pW, aL_pI, aL_pL, aL_pA, aL_pB, aL_pR, aL_pW, gR_pI, gR_pL, gR_pA, gR_pB, gR_pR, gR_pW]
    have g2 : gI_ SM' 0 6 = nI (n - 1) := by rw [f2.gI (by simp)]; simp [gI_pI, gI_pL, gI_pA, gI_pB, gI_pR, gI_pW, gL_pI, gL_pL, gL_pA, gL_pB, gL_pR, gL_pW, aI_pI, aI_pL, aI_pA, aI_pB, aI_pR, aI_pW, aL_pI, aL_pL, aL_pA, aL_pB, aL_pR, aL_pW, gR_pI, gR_pL, gR_pA, gR_pB, gR_pR, gR_pW]
    have F1 : Fr (fun a b => a == 1 || a == 2 || (a == 3 && (b == 1 || b == 2))) SX SX' := Fr.trans (Fr.pI (by simp) (Fr.pI (by simp) (Fr.refl _ _))) (f1.mono (by intro a b z; simp at z ⊢; omega))
    have F2 : Fr (fun a b => a == 1 || a == 2 || (a == 0 && b == 6)) SM SM' := Fr.trans (Fr.pI (by simp) (Fr.refl _ _)) (f2.mono (by intro a b z; simp at z ⊢; omega))
    simp only [c, if_false, e1, b1_s, bs_l, bs_r, oI_e, oL_e, oR_e]
    simp only [gI_pI, gI_pL, gI_pA, gI_pB, gI_pR, gI_pW, gL_pI, gL_pL, gL_pA, gL_pB, gL_pR, gL_pW, aI_pI, aI_pL, aI_pA, aI_pB, aI_pR, aI_pW, aL_pI, aL_pL, aL_pA, aL_pB, aL_pR, aL_pW, gR_pI, gR_pL, gR_pA, gR_pB, gR_pR, gR_pW, Nat.reduceEqDiff, and_false, if_false, a2, a3, and_self, if_true]
    simp (disch := omega) only [li_le1, li_le2, li_lt1, li_lt2, li_eq1, li_eq2, li_add1, li_add2, li_sub1, li_sub2, li_mul1, li_mul2, li_div2, nI_leI, nI_ltI, nI_eq, nI_add, nI_sub, nI_mul, nI_div, rI_n, rL_n, rR_n, wI_n, wL_n, li_rI, li_rL, li_rR, li_wI, li_wL, b1_s, bs_l, bs_r, oI_e, oL_e, oR_e, wZ_0, wZ_1, wZ_b, if_true, if_false, not_true_eq_false, not_false_eq_true, e2, e3, g1, g2]
    refine ⟨_, _, _, rfl, rfl, ⟨w, v, ac (n - 1), ag (n - 1), ⟨hb.1, b3, b4, ?_, ?_, b5⟩, ⟨n - 1, (nx + 7) % 8, ac, ag, ⟨by omega, by omega⟩, ?_, g1, g2, fun j hj => ?_⟩, ⟨nw, dc, hc.fr F1 F2 rfl (fun j => rfl) rfl (fun j => rfl)⟩⟩, hS.fr F1 F2 (fun k j z => by simp [plX, plM, Nat.ble_eq] at z ⊢; omega) (fun k j z => by simp [plX, plM, Nat.ble_eq] at z ⊢; omega), hP.fr F1 F2 (fun k j z => by simp [plX, plM, Nat.ble_eq] at z ⊢; omega) (fun k j z => by simp [plX, plM, Nat.ble_eq] at z ⊢; omega), hT.fr F1 F2 (fun k j z => by simp [plX, plM, Nat.ble_eq] at z ⊢; omega) (fun k j z => by simp [plX, plM, Nat.ble_eq] at z ⊢; omega), hL.fr F1 F2 (fun k j z => by simp [plX, plM, Nat.ble_eq] at z ⊢; omega) (fun k j z => by simp [plX, plM, Nat.ble_eq] at z ⊢; omega), hH.fr F1 F2 (fun k j z => by simp [plX, plM, Nat.ble_eq] at z ⊢; omega) (fun k j z => by simp [plX, plM, Nat.ble_eq] at z ⊢; omega), by rw [F1.gI (by simp), F2.gI (by simp)]; exact hE⟩
    · rw [F2.gI (by simp)]; exact hb.2.2.2.1
    · rw [F2.gI (by simp)]; exact hb.2.2.2.2.1
    · rw [f1.gI (by simp)]; simp [gI_pI, gI_pL, gI_pA, gI_pB, gI_pR, gI_pW, gL_pI, gL_pL, gL_pA, gL_pB, gL_pR, gL_pW, aI_pI, aI_pL, aI_pA, aI_pB, aI_pR, aI_pW, aL_pI, aL_pL, aL_pA, aL_pB, aL_pR, aL_pW, gR_pI, gR_pL, gR_pA, gR_pB, gR_pR, gR_pW]
    · obtain ⟨z1, z2, z3⟩ := a4 j (by omega)
      rw [show ((nx + 7) % 8 + 8 - (n - 1) + j) % 8 = (nx + 8 - n + j) % 8 by omega]
      exact ⟨z1.fr F1 (fun q => by simp; omega) (fun q => by simp; omega), z2.fr F2 (fun q => rfl) (fun q => rfl), z3⟩
