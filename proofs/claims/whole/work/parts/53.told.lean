/-! told, name, stamp, fault, end, feed -/
theorem okL_e {S : St} {L D : Nat} (h : HL S L D) : okL_ (gR_ S 0 11) = some L := by
  unfold okL_
  rw [h.1, if_pos]
  rcases h.2.2 with z | z <;> omega
theorem Lws.le {S : St} {a b d e r lim many : Nat} {fr to ba le : Nat → Nat} {sc : Nat → Option Nat} (h : Lws S a b d e r lim many fr to ba le sc) : ∀ i, i < 8 → aI_ S (r + 3) i = nI (le i) := fun i hi => (h.2.2 i hi).2.2.2.1
theorem Lws.sc {S : St} {a b d e r lim many : Nat} {fr to ba le : Nat → Nat} {sc : Nat → Option Nat} (h : Lws S a b d e r lim many fr to ba le sc) : ∀ i, i < 8 → aI_ S (r + 4) i = sv (sc i) := fun i hi => (h.2.2 i hi).2.2.2.2
theorem has_p {S : St} {n : Nat} (h1 : gI_ S 49 6 = nI n) (a : Int32) : fX5_has S a = some (if 0 ≤ a ∧ a ≤ nI n - 1 then 1 else 0) := by
  unfold fX5_has
  rw [within_e, h1]
  simp only [b1_s, bs_l, bs_r, oI_e, oL_e, oR_e, bz_i]
theorem sim_fault : ∀ (SX SM : St), Rel_ SX SM → ∃ (r : Int32), fX11_fault SX = some r ∧ fX12_fault SM = some r ∧ Rel_ SX SM :=
  fun SX SM h => ⟨gI_ SX 61 5, rfl, by unfold fX12_fault; rw [h.2.2.2.2.2.2], h⟩
/-- what lies outside of 0 .. n is none of these -/
theorem not_rng {a : Int32} {n : Nat} (hn : n < 2 ^ 31) (h : ¬ (0 ≤ a ∧ a ≤ nI n)) : ∀ k, k ≤ n → ¬ a = nI k := fun k hk q => h (by rw [q]; exact ⟨nI_pos' (by omega), nI_le hk hn⟩)
theorem sim_told : ∀ (SX SM : St) (a1 a2 : Int32), Rel_ SX SM → ∃ (r : Int32), fX11_told SX a1 a2 = some r ∧ fX12_told SM a1 a2 = some r ∧ Rel_ SX SM := by
  intro SX SM a1 a2 h
  obtain ⟨hB, hS, hP, hT, hL, hH, hE⟩ := id h
  obtain ⟨n, lo, gd, st, nm, ag, dr, ⟨hn, pb⟩, px, pm⟩ := hP
  obtain ⟨L, D, lim, many, fr, to, ba, le, sc, hl, lb, lx, lm⟩ := hL
  unfold fX11_told fX12_told
  rw [has_p px.1, pm.1, in_e SM a1 0 (nI n - 1) (B := 0) rfl rfl]
  simp only [(in_e SM a2 0 7 (B := 0) (C := 7) rfl rfl), b1_s, bs_l, bs_r, oI_e, oL_e, oR_e, i10]
  by_cases c1 : 0 ≤ a1 ∧ a1 ≤ nI n - 1
  · obtain ⟨p, hp, rfl⟩ := (in_nat (by omega)).mp c1
    obtain ⟨g1, g2, g3, g4, g5, g6⟩ := px.2 p hp
    obtain ⟨f1, f2, f3, f4, f5, f6⟩ := pm.2 p hp
    obtain ⟨b1, b2, b3, b4, b5, b6⟩ := pb p hp
    simp only [c1, not_true_eq_false, not_false_eq_true, if_true, if_false, and_self, true_and, and_true, and_false, false_and]
    by_cases c2 : 0 ≤ a2 ∧ a2 ≤ 7
    · obtain ⟨j, hj1, hj2, rfl⟩ := in_rng (a := 0) (b := 7) (by omega) c2 (by omega)
      have e1 : fX3_seller L SX (nI (nm p)) (nI (gd p)) = _ := seller_x lb.2.2.1 lx.le (fun i hi => (lb.2.2.2 i hi).2.2.2) lx.sc b2 (show nm p < 8 by omega)
      have e2 : fX12_soldAs SM (nI p) = _ := sold_m lb.2.2.1 lm.le (fun i hi => (lb.2.2.2 i hi).2.2.2) lm.sc b2 (show nm p < 8 by omega) (show p < 12 by omega) f2 f6
      have e3 : fX3_stepsToSell L SX (nI (nm p)) (nI (gd p)) = _ := steps_x (pr := fun i => decide (le i ≤ gd p)) lb.2.2.1 lx.le (fun i hi => by rw [nI_leI (by have := (lb.2.2.2 i hi).2.2.2; omega) (by omega)]; simp) lx.sc (show nm p < 8 by omega)
      have e4 := went_m (S := SM) (pr := fun i => decide (le i ≤ gd p)) lb.2.2.1 lm.sc (show nm p < 8 by omega) rfl
      have e5 : (if ag p = false then some 0 else some 1 : Option Int32) = some (zb (ag p)) := by cases ag p <;> rfl
      simp only [c2, not_true_eq_false, not_false_eq_true, if_true, if_false, and_self, true_and, and_true, and_false, false_and, okL_e hl]
      simp (disch := omega) only [li_le1, li_le2, li_lt1, li_lt2, li_eq1, li_eq2, li_add1, li_add2, li_sub1, li_sub2, li_mul1, li_mul2, li_div2, nI_leI, nI_ltI, nI_eq, nI_add, nI_sub, nI_mul, nI_div, rI_n, rL_n, rR_n, wI_n, wL_n, li_rI, li_rL, li_rR, li_wI, li_wL, b1_s, bs_l, bs_r, oI_e, oL_e, oR_e, wZ_0, wZ_1, wZ_b, if_true, if_false, not_true_eq_false, not_false_eq_true, g1, g2, g3, g4, g5, g6, f1, f2, f3, f4, f5, f6, e1, e2, e3, e4, zb_0, e5]
      obtain rfl | rfl | rfl | rfl | rfl | rfl | rfl | rfl : j = 0 ∨ j = 1 ∨ j = 2 ∨ j = 3 ∨ j = 4 ∨ j = 5 ∨ j = 6 ∨ j = 7 := by omega
      all_goals exact ⟨_, rfl, rfl, h⟩
    · have d := not_rng (n := 7) (by omega) c2
      simp only [c2, not_true_eq_false, not_false_eq_true, if_true, if_false, and_self, true_and, and_true, and_false, false_and, show ¬ a2 = 0 from d 0 (by omega), show ¬ a2 = 1 from d 1 (by omega), show ¬ a2 = 2 from d 2 (by omega), show ¬ a2 = 3 from d 3 (by omega), show ¬ a2 = 4 from d 4 (by omega), show ¬ a2 = 5 from d 5 (by omega), show ¬ a2 = 6 from d 6 (by omega), show ¬ a2 = 7 from d 7 (by omega)]
      exact ⟨-100, rfl, rfl, h⟩
  · exact ⟨-100, by simp only [c1, not_true_eq_false, not_false_eq_true, if_true, if_false, and_self, true_and, and_true, and_false, false_and], by simp only [c1, not_true_eq_false, not_false_eq_true, if_true, if_false, and_self, true_and, and_true, and_false, false_and], h⟩
theorem sim_stamp : ∀ (SX SM : St) (a1 a2 : Int32), Rel_ SX SM → ∃ (r : Int32), fX11_stamp SX a1 a2 = some r ∧ fX12_stamp SM a1 a2 = some r ∧ Rel_ SX SM := by
  intro SX SM a1 a2 h
  obtain ⟨hB, hS, hP, hT, hL, hH, hE⟩ := id h
  obtain ⟨L, D, lim, many, fr, to, ba, le, sc, hl, lb, lx, lm⟩ := hL
  unfold fX11_stamp fX12_stamp
  simp only [within_e, (in_e SM a1 0 7 (B := 0) (C := 7) rfl rfl), (in_e SM a2 0 2 (B := 0) (C := 2) rfl rfl), b1_s, bs_l, bs_r, oI_e, oL_e, oR_e, i10, okL_e hl]
  by_cases c1 : 0 ≤ a1 ∧ a1 ≤ 7
  · obtain ⟨p, _, hp, rfl⟩ := in_rng (a := 0) (b := 7) (by omega) c1 (by omega)
    obtain ⟨g1, g2, g3, g4, g5⟩ := lx.2.2 p (by omega)
    obtain ⟨f1, f2, f3, f4, f5⟩ := lm.2.2 p (by omega)
    have g2' : aI_ SX (L + 2) p = nI (to p) := g2
    have g3' : aI_ SX (L + 3) p = nI (ba p) := g3
    simp only [c1, not_true_eq_false, not_false_eq_true, if_true, if_false, and_self, true_and, and_true, and_false, false_and]
    by_cases c2 : 0 ≤ a2 ∧ a2 ≤ 2
    · obtain ⟨j, hj1, hj2, rfl⟩ := in_rng (a := 0) (b := 2) (by omega) c2 (by omega)
      simp only [c2, not_true_eq_false, not_false_eq_true, if_true, if_false, and_self, true_and, and_true, and_false, false_and]
      simp (disch := omega) only [li_le1, li_le2, li_lt1, li_lt2, li_eq1, li_eq2, li_add1, li_add2, li_sub1, li_sub2, li_mul1, li_mul2, li_div2, nI_leI, nI_ltI, nI_eq, nI_add, nI_sub, nI_mul, nI_div, rI_n, rL_n, rR_n, wI_n, wL_n, li_rI, li_rL, li_rR, li_wI, li_wL, b1_s, bs_l, bs_r, oI_e, oL_e, oR_e, wZ_0, wZ_1, wZ_b, if_true, if_false, not_true_eq_false, not_false_eq_true, g1, g2', g3', f1, f2, f3]
      obtain rfl | rfl | rfl : j = 0 ∨ j = 1 ∨ j = 2 := by omega
      all_goals exact ⟨_, rfl, rfl, h⟩
    · have d := not_rng (n := 2) (by omega) c2
      simp only [c2, not_true_eq_false, not_false_eq_true, if_true, if_false, and_self, true_and, and_true, and_false, false_and, show ¬ a2 = 0 from d 0 (by omega), show ¬ a2 = 1 from d 1 (by omega), show ¬ a2 = 2 from d 2 (by omega)]
      exact ⟨-1, rfl, rfl, h⟩
  · exact ⟨-1, by simp only [c1, not_true_eq_false, not_false_eq_true, if_true, if_false, and_self, true_and, and_true, and_false, false_and], by simp only [c1, not_true_eq_false, not_false_eq_true, if_true, if_false, and_self, true_and, and_true, and_false, false_and], h⟩
theorem sim_name : ∀ (SX SM : St) (a1 a2 : Int32), Rel_ SX SM → ∃ (r : Int32), fX11_name SX a1 a2 = some r ∧ fX12_name SM a1 a2 = some r ∧ Rel_ SX SM := by
  intro SX SM a1 a2 h
  obtain ⟨hB, hS, hP, hT, hL, hH, hE⟩ := id h
  obtain ⟨L, D, lim, many, fr, to, ba, le, sc, hl, lb, lx, lm⟩ := hL
  unfold fX11_name fX12_name
  simp only [within_e, (in_e SM a1 0 7 (B := 0) (C := 7) rfl rfl), (in_e SM a2 0 2 (B := 0) (C := 2) rfl rfl), b1_s, bs_l, bs_r, oI_e, oL_e, oR_e, i10, okL_e hl]
  by_cases c1 : 0 ≤ a1 ∧ a1 ≤ 7
  · obtain ⟨p, _, hp, rfl⟩ := in_rng (a := 0) (b := 7) (by omega) c1 (by omega)
    have g4 : aI_ SX (L + 4) p = nI (le p) := lx.le p (by omega)
    have g5 : aI_ SX (L + 5) p = sv (sc p) := lx.sc p (by omega)
    have f4 : aI_ SM 32 p = nI (le p) := lm.le p (by omega)
    have f5 : aI_ SM 33 p = sv (sc p) := lm.sc p (by omega)
    have e3 : fX3_stepsToSell L SX (nI p) (-1) = _ := steps_x (pr := fun i => false) lb.2.2.1 lx.le (fun i hi => by
      have := (lb.2.2.2 i hi).2.2.2
      constructor
      · intro q
        rw [fa_le, nI_toInt (by omega)] at q
        exact absurd q (by have : (-1 : Int32).toInt = -1 := by decide
                           omega)
      · intro q; cases q) lx.sc (show p < 8 by omega)
    have none8 : ∀ f x, sellf (fun _ => false) sc f x = none := by
      intro f
      induction f with
      | zero => intro x; rfl
      | succ f ih =>
        intro x
        rw [sellf]
        simp only [Bool.false_eq_true, if_false]
        cases sc x with
        | none => rfl
        | some m => exact ih m
    have e4 : fX12_wentOn SM (nI p) (-4) = _ := went_m (S := SM) (to := none) (pr := fun i => false) lb.2.2.1 lm.sc (show p < 8 by omega) (none8 8 p).symm
    simp only [c1, not_true_eq_false, not_false_eq_true, if_true, if_false, and_self, true_and, and_true, and_false, false_and]
    by_cases c2 : 0 ≤ a2 ∧ a2 ≤ 2
    · obtain ⟨j, hj1, hj2, rfl⟩ := in_rng (a := 0) (b := 2) (by omega) c2 (by omega)
      simp only [c2, not_true_eq_false, not_false_eq_true, if_true, if_false, and_self, true_and, and_true, and_false, false_and]
      simp (disch := omega) only [li_le1, li_le2, li_lt1, li_lt2, li_eq1, li_eq2, li_add1, li_add2, li_sub1, li_sub2, li_mul1, li_mul2, li_div2, nI_leI, nI_ltI, nI_eq, nI_add, nI_sub, nI_mul, nI_div, rI_n, rL_n, rR_n, wI_n, wL_n, li_rI, li_rL, li_rR, li_wI, li_wL, b1_s, bs_l, bs_r, oI_e, oL_e, oR_e, wZ_0, wZ_1, wZ_b, if_true, if_false, not_true_eq_false, not_false_eq_true, g4, g5, f4, f5, e3, e4]
      obtain rfl | rfl | rfl : j = 0 ∨ j = 1 ∨ j = 2 := by omega
      all_goals exact ⟨_, rfl, rfl, h⟩
    · have d := not_rng (n := 2) (by omega) c2
      simp only [c2, not_true_eq_false, not_false_eq_true, if_true, if_false, and_self, true_and, and_true, and_false, false_and, show ¬ a2 = 0 from d 0 (by omega), show ¬ a2 = 1 from d 1 (by omega), show ¬ a2 = 2 from d 2 (by omega)]
      exact ⟨-1, rfl, rfl, h⟩
  · exact ⟨-1, by simp only [c1, not_true_eq_false, not_false_eq_true, if_true, if_false, and_self, true_and, and_true, and_false, false_and], by simp only [c1, not_true_eq_false, not_false_eq_true, if_true, if_false, and_self, true_and, and_true, and_false, false_and], h⟩
theorem sim_end : ∀ (SX SM : St) (a1 : Int32), Rel_ SX SM → ∃ (r : Int32) (S1 S2 : St), fX11_end SX a1 = some (r, S1) ∧ fX12_end SM a1 = some (r, S2) ∧ Rel_ S1 S2 := by
  intro SX SM a1 h
  obtain ⟨hB, hS, hP, hT, hL, hH, hE⟩ := id h
  obtain ⟨n, y, ⟨hn, hy⟩, tx, tm⟩ := hT
  unfold fX11_end fX12_end
  rw [tx.1, tm.1, in_e SM a1 0 (nI n) (B := 0) rfl rfl, within_e]
  simp only [b1_s, bs_l, bs_r, oI_e, oL_e, oR_e, i10]
  by_cases c1 : 0 ≤ a1 ∧ a1 ≤ nI n
  · obtain ⟨p, _, hp, rfl⟩ := in_rng (a := 0) (b := n) (by omega) c1 (by omega)
    simp only [c1, not_true_eq_false, not_false_eq_true, if_true, if_false, and_self, true_and, and_true, and_false, false_and]
    have F1 : Fr (fun a b => (a == 56 && b == 1)) SX (pI_ SX 56 1 (nI p)) := Fr.pI (by simp) (Fr.refl _ _)
    have F2 : Fr (fun a b => (a == 0 && b == 36)) SM (pI_ SM 0 36 (nI p)) := Fr.pI (by simp) (Fr.refl _ _)
    refine ⟨_, _, _, rfl, rfl, hB.fr F1 F2 (fun k j z => by simp [plX, plM, Nat.ble_eq] at z ⊢; omega) (fun k j z => by simp [plX, plM, Nat.ble_eq] at z ⊢; omega), hS.fr F1 F2 (fun k j z => by simp [plX, plM, Nat.ble_eq] at z ⊢; omega) (fun k j z => by simp [plX, plM, Nat.ble_eq] at z ⊢; omega), hP.fr F1 F2 (fun k j z => by simp [plX, plM, Nat.ble_eq] at z ⊢; omega) (fun k j z => by simp [plX, plM, Nat.ble_eq] at z ⊢; omega), ⟨p, y, ⟨by omega, fun i hi => hy i (by omega)⟩, ⟨by simp [gI_pI, gI_pL, gI_pA, gI_pB, gI_pR, gI_pW, gL_pI, gL_pL, gL_pA, gL_pB, gL_pR, gL_pW, aI_pI, aI_pL, aI_pA, aI_pB, aI_pR, aI_pW, aL_pI, aL_pL, aL_pA, aL_pB, aL_pR, aL_pW, gR_pI, gR_pL, gR_pA, gR_pB, gR_pR, gR_pW], fun i hi => ?_⟩, ⟨by simp [gI_pI, gI_pL, gI_pA, gI_pB, gI_pR, gI_pW, gL_pI, gL_pL, gL_pA, gL_pB, gL_pR, gL_pW, aI_pI, aI_pL, aI_pA, aI_pB, aI_pR, aI_pW, aL_pI, aL_pL, aL_pA, aL_pB, aL_pR, aL_pW, gR_pI, gR_pL, gR_pA, gR_pB, gR_pR, gR_pW], fun i hi => ?_⟩⟩, hL.fr F1 F2 (fun k j z => by simp [plX, plM, Nat.ble_eq] at z ⊢; omega) (fun k j z => by simp [plX, plM, Nat.ble_eq] at z ⊢; omega), hH.fr F1 F2 (fun k j z => by simp [plX, plM, Nat.ble_eq] at z ⊢; omega) (fun k j z => by simp [plX, plM, Nat.ble_eq] at z ⊢; omega), by rw [F1.gI (by simp), F2.gI (by simp)]; exact hE⟩
    · simp only [gI_pI, gI_pL, gI_pA, gI_pB, gI_pR, gI_pW, gL_pI, gL_pL, gL_pA, gL_pB, gL_pR, gL_pW, aI_pI, aI_pL, aI_pA, aI_pB, aI_pR, aI_pW, aL_pI, aL_pL, aL_pA, aL_pB, aL_pR, aL_pW, gR_pI, gR_pL, gR_pA, gR_pB, gR_pR, gR_pW]; exact tx.2 i (by omega)
    · simp only [gI_pI, gI_pL, gI_pA, gI_pB, gI_pR, gI_pW, gL_pI, gL_pL, gL_pA, gL_pB, gL_pR, gL_pW, aI_pI, aI_pL, aI_pA, aI_pB, aI_pR, aI_pW, aL_pI, aL_pL, aL_pA, aL_pB, aL_pR, aL_pW, gR_pI, gR_pL, gR_pA, gR_pB, gR_pR, gR_pW]; exact tm.2 i (by omega)
  · exact ⟨-1, SX, SM, by simp only [c1, not_true_eq_false, not_false_eq_true, if_true, if_false, and_self, true_and, and_true, and_false, false_and], by simp only [c1, not_true_eq_false, not_false_eq_true, if_true, if_false, and_self, true_and, and_true, and_false, false_and], h⟩
/-- a byte of a long -/
theorem byte_l (v : Int64) (s : Int64) : ∃ b : Nat, b < 256 ∧ ((v >>> s) &&& 255 : Int64).toInt32 = nI b := by
  generalize v >>> s = x
  refine ⟨(x &&& 255 : Int64).toBitVec.toNat, ?_, ?_⟩
  · rw [Int64.toBitVec_and]
    show (x.toBitVec &&& 255#64).toNat < 256
    rw [BitVec.toNat_and]
    exact Nat.lt_of_le_of_lt Nat.and_le_right (by decide)
  · apply Int32.toBitVec_inj.mp
    show (x &&& 255 : Int64).toBitVec.signExtend 32 = BitVec.ofNat 32 _
    apply BitVec.eq_of_toNat_eq
    rw [BitVec.toNat_ofNat, BitVec.signExtend_eq_setWidth_of_le _ (by omega), BitVec.toNat_setWidth]
theorem feed_x {S : St} {n : Nat} {y : Nat → Nat} (v : Int64) (ht : Tap S 56 1 57 n y) (hn : n + 8 ≤ 200) (bs : Nat → Nat) (hb : ∀ i, i < 8 → ((v >>> ((nI (56 - 8 * i)).toInt64 &&& 63)) &&& 255 : Int64).toInt32 = nI (bs i)) : ∃ S', fX10_append S v = some S' ∧ Tap S' 56 1 57 (n + 8) (fun i => if i < n then y i else bs (i - n)) ∧ Fr (fun a b => a == 57 || (a == 56 && b == 1)) S S' := by
  unfold fX10_append
  obtain ⟨S', hl, hF, hz, ho⟩ := lp_inv (body := fun w21 : Int32 × St => bX10_append_3 v w21.1 w21.2) (fun i s => s.1 = (if i = 8 then -8 else nI (56 - 8 * i)) ∧ Fr (fun a b => a == 57 || (a == 56 && b == 1)) S s.2 ∧ gI_ s.2 56 1 = nI (n + i) ∧ ∀ q, q < n + i → aI_ s.2 57 q = nI (if q < n then y q else bs (q - n))) (fun r => Fr (fun a b => a == 57 || (a == 56 && b == 1)) S r ∧ gI_ r 56 1 = nI (n + 8) ∧ ∀ q, q < n + 8 → aI_ r 57 q = nI (if q < n then y q else bs (q - n))) 8 (m := 5000) (s := (56, S)) (by omega) ⟨rfl, Fr.refl _ _, ht.1, fun q hq => by rw [if_pos (by omega)]; exact ht.2 q (by omega)⟩
    (fun i s hi ⟨h1, h2, h3, h4⟩ => Or.inl ⟨(if i + 1 = 8 then -8 else nI (56 - 8 * (i + 1)), pI_ (pA_ s.2 57 (n + i) (nI (bs i))) 56 1 (nI (n + i + 1))), by
      have hn1 : ¬ 200 ≤ n + i := by omega
      unfold bX10_append_3
      rw [if_neg (show ¬ i = 8 by omega)] at h1
      rw [h1, h3]
      simp (disch := omega) only [li_le1, li_le2, li_lt1, li_lt2, li_eq1, li_eq2, li_add1, li_add2, li_sub1, li_sub2, li_mul1, li_mul2, li_div2, nI_leI, nI_ltI, nI_eq, nI_add, nI_sub, nI_mul, nI_div, rI_n, rL_n, rR_n, wI_n, wL_n, li_rI, li_rL, li_rR, li_wI, li_wL, b1_s, bs_l, bs_r, oI_e, oL_e, oR_e, wZ_0, wZ_1, wZ_b, if_true, if_false, not_true_eq_false, not_false_eq_true, hn1, hb i hi, Nat.not_lt_zero, gI_pI, gI_pL, gI_pA, gI_pB, gI_pR, gI_pW, gL_pI, gL_pL, gL_pA, gL_pB, gL_pR, gL_pW, aI_pI, aI_pL, aI_pA, aI_pB, aI_pR, aI_pW, aL_pI, aL_pL, aL_pA, aL_pB, aL_pR, aL_pW, gR_pI, gR_pL, gR_pA, gR_pB, gR_pR, gR_pW, h3]
      by_cases z : i + 1 = 8
      · obtain rfl : i = 7 := by omega
        rfl
      · simp only [z, if_false]
        have : nI (56 - 8 * i) + (-8) = nI (56 - 8 * (i + 1)) := by
          obtain rfl | rfl | rfl | rfl | rfl | rfl | rfl : i = 0 ∨ i = 1 ∨ i = 2 ∨ i = 3 ∨ i = 4 ∨ i = 5 ∨ i = 6 := by omega
          all_goals decide
        rw [this], rfl, Fr.pI (by simp) (Fr.pA (by simp) h2), by simp [gI_pI, gI_pL, gI_pA, gI_pB, gI_pR, gI_pW, gL_pI, gL_pL, gL_pA, gL_pB, gL_pR, gL_pW, aI_pI, aI_pL, aI_pA, aI_pB, aI_pR, aI_pW, aL_pI, aL_pL, aL_pA, aL_pB, aL_pR, aL_pW, gR_pI, gR_pL, gR_pA, gR_pB, gR_pR, gR_pW]; rfl, fun q hq => by
      simp only [gI_pI, gI_pL, gI_pA, gI_pB, gI_pR, gI_pW, gL_pI, gL_pL, gL_pA, gL_pB, gL_pR, gL_pW, aI_pI, aI_pL, aI_pA, aI_pB, aI_pR, aI_pW, aL_pI, aL_pL, aL_pA, aL_pB, aL_pR, aL_pW, gR_pI, gR_pL, gR_pA, gR_pB, gR_pR, gR_pW, true_and]
      by_cases e : q = n + i
      · rw [if_pos e, if_neg (by omega)]; congr 2; omega
      · rw [if_neg e]; exact h4 q (by omega)⟩)
    (fun s ⟨h1, h2, h3, h4⟩ => ⟨s.2, by
      unfold bX10_append_3
      rw [h1, if_pos rfl, if_pos (by decide)], h2, h3, h4⟩)
  rw [hl]
  exact ⟨S', rfl, ⟨hz, ho⟩, hF⟩
theorem feed_m {S : St} {n : Nat} {y : Nat → Nat} (v : Int64) (ht : Tap S 0 36 28 n y) (hn : n + 8 ≤ 200) (bs : Nat → Nat) (hb : ∀ i, i < 8 → ((v >>> ((nI (56 - 8 * i)).toInt64 &&& 63)) &&& 255 : Int64).toInt32 = nI (bs i)) : ∃ S', lp (fun w21 : Int32 × St => bX12_feed_19 v w21.1 w21.2) 5000 (56, S) = some S' ∧ Tap S' 0 36 28 (n + 8) (fun i => if i < n then y i else bs (i - n)) ∧ Fr (fun a b => a == 28 || (a == 0 && b == 36)) S S' := by
  obtain ⟨S', hl, hF, hz, ho⟩ := lp_inv (body := fun w21 : Int32 × St => bX12_feed_19 v w21.1 w21.2) (fun i s => s.1 = (if i = 8 then -8 else nI (56 - 8 * i)) ∧ Fr (fun a b => a == 28 || (a == 0 && b == 36)) S s.2 ∧ gI_ s.2 0 36 = nI (n + i) ∧ ∀ q, q < n + i → aI_ s.2 28 q = nI (if q < n then y q else bs (q - n))) (fun r => Fr (fun a b => a == 28 || (a == 0 && b == 36)) S r ∧ gI_ r 0 36 = nI (n + 8) ∧ ∀ q, q < n + 8 → aI_ r 28 q = nI (if q < n then y q else bs (q - n))) 8 (m := 5000) (s := (56, S)) (by omega) ⟨rfl, Fr.refl _ _, ht.1, fun q hq => by rw [if_pos (by omega)]; exact ht.2 q (by omega)⟩
    (fun i s hi ⟨h1, h2, h3, h4⟩ => Or.inl ⟨(if i + 1 = 8 then -8 else nI (56 - 8 * (i + 1)), pI_ (pA_ s.2 28 (n + i) (nI (bs i))) 0 36 (nI (n + i + 1))), by
      unfold bX12_feed_19
      rw [if_neg (show ¬ i = 8 by omega)] at h1
      rw [h1, h3]
      simp (disch := omega) only [li_le1, li_le2, li_lt1, li_lt2, li_eq1, li_eq2, li_add1, li_add2, li_sub1, li_sub2, li_mul1, li_mul2, li_div2, nI_leI, nI_ltI, nI_eq, nI_add, nI_sub, nI_mul, nI_div, rI_n, rL_n, rR_n, wI_n, wL_n, li_rI, li_rL, li_rR, li_wI, li_wL, b1_s, bs_l, bs_r, oI_e, oL_e, oR_e, wZ_0, wZ_1, wZ_b, if_true, if_false, not_true_eq_false, not_false_eq_true, hb i hi, Nat.not_lt_zero, gI_pI, gI_pL, gI_pA, gI_pB, gI_pR, gI_pW, gL_pI, gL_pL, gL_pA, gL_pB, gL_pR, gL_pW, aI_pI, aI_pL, aI_pA, aI_pB, aI_pR, aI_pW, aL_pI, aL_pL, aL_pA, aL_pB, aL_pR, aL_pW, gR_pI, gR_pL, gR_pA, gR_pB, gR_pR, gR_pW, h3]
      by_cases z : i + 1 = 8
      · obtain rfl : i = 7 := by omega
        rfl
      · simp only [z, if_false]
        have : nI (56 - 8 * i) + (-8) = nI (56 - 8 * (i + 1)) := by
          obtain rfl | rfl | rfl | rfl | rfl | rfl | rfl : i = 0 ∨ i = 1 ∨ i = 2 ∨ i = 3 ∨ i = 4 ∨ i = 5 ∨ i = 6 := by omega
          all_goals decide
        rw [this], rfl, Fr.pI (by simp) (Fr.pA (by simp) h2), by simp [gI_pI, gI_pL, gI_pA, gI_pB, gI_pR, gI_pW, gL_pI, gL_pL, gL_pA, gL_pB, gL_pR, gL_pW, aI_pI, aI_pL, aI_pA, aI_pB, aI_pR, aI_pW, aL_pI, aL_pL, aL_pA, aL_pB, aL_pR, aL_pW, gR_pI, gR_pL, gR_pA, gR_pB, gR_pR, gR_pW]; rfl, fun q hq => by
      simp only [gI_pI, gI_pL, gI_pA, gI_pB, gI_pR, gI_pW, gL_pI, gL_pL, gL_pA, gL_pB, gL_pR, gL_pW, aI_pI, aI_pL, aI_pA, aI_pB, aI_pR, aI_pW, aL_pI, aL_pL, aL_pA, aL_pB, aL_pR, aL_pW, gR_pI, gR_pL, gR_pA, gR_pB, gR_pR, gR_pW, true_and]
      by_cases e : q = n + i
      · rw [if_pos e, if_neg (by omega)]; congr 2; omega
      · rw [if_neg e]; exact h4 q (by omega)⟩)
    (fun s ⟨h1, h2, h3, h4⟩ => ⟨s.2, by
      unfold bX12_feed_19
      rw [h1, if_pos rfl, if_pos (by decide)], h2, h3, h4⟩)
  exact ⟨S', hl, ⟨hz, ho⟩, hF⟩
theorem sim_feed : ∀ (SX SM : St) (a1 : Int64), Rel_ SX SM → ∃ (r : Int32) (S1 S2 : St), fX11_feed SX a1 = some (r, S1) ∧ fX12_feed SM a1 = some (r, S2) ∧ Rel_ S1 S2 := by
  intro SX SM a1 h
  obtain ⟨hB, hS, hP, hT, hL, hH, hE⟩ := id h
  obtain ⟨n, y, ⟨hn, hy⟩, tx, tm⟩ := hT
  unfold fX11_feed fX12_feed
  rw [tx.1, tm.1]
  by_cases c1 : n + 8 ≤ 200
  · have hb := fun i : Nat => byte_l a1 ((nI (56 - 8 * i)).toInt64 &&& 63)
    obtain ⟨bs, hbs⟩ : ∃ bs : Nat → Nat, ∀ i, bs i < 256 ∧ ((a1 >>> ((nI (56 - 8 * i)).toInt64 &&& 63)) &&& 255 : Int64).toInt32 = nI (bs i) := ⟨fun i => (hb i).choose, fun i => (hb i).choose_spec⟩
    obtain ⟨S', e1, t1, F1⟩ := feed_x a1 tx c1 bs (fun i _ => (hbs i).2)
    obtain ⟨T', e2, t2, F2⟩ := feed_m a1 tm c1 bs (fun i _ => (hbs i).2)
    simp (disch := omega) only [li_le1, li_le2, li_lt1, li_lt2, li_eq1, li_eq2, li_add1, li_add2, li_sub1, li_sub2, li_mul1, li_mul2, li_div2, nI_leI, nI_ltI, nI_eq, nI_add, nI_sub, nI_mul, nI_div, rI_n, rL_n, rR_n, wI_n, wL_n, li_rI, li_rL, li_rR, li_wI, li_wL, b1_s, bs_l, bs_r, oI_e, oL_e, oR_e, wZ_0, wZ_1, wZ_b, if_true, if_false, not_true_eq_false, not_false_eq_true, c1, e1, e2, t1.1, t2.1]
    refine ⟨_, _, _, rfl, rfl, hB.fr F1 F2 (fun k j z => by simp [plX, plM, Nat.ble_eq] at z ⊢; omega) (fun k j z => by simp [plX, plM, Nat.ble_eq] at z ⊢; omega), hS.fr F1 F2 (fun k j z => by simp [plX, plM, Nat.ble_eq] at z ⊢; omega) (fun k j z => by simp [plX, plM, Nat.ble_eq] at z ⊢; omega), hP.fr F1 F2 (fun k j z => by simp [plX, plM, Nat.ble_eq] at z ⊢; omega) (fun k j z => by simp [plX, plM, Nat.ble_eq] at z ⊢; omega), ⟨n + 8, _, ⟨c1, fun i hi => ?_⟩, t1, t2⟩, hL.fr F1 F2 (fun k j z => by simp [plX, plM, Nat.ble_eq] at z ⊢; omega) (fun k j z => by simp [plX, plM, Nat.ble_eq] at z ⊢; omega), hH.fr F1 F2 (fun k j z => by simp [plX, plM, Nat.ble_eq] at z ⊢; omega) (fun k j z => by simp [plX, plM, Nat.ble_eq] at z ⊢; omega), by rw [F1.gI (by simp), F2.gI (by simp)]; exact hE⟩
    by_cases e : i < n
    · simp only [e, if_true]; exact hy i e
    · simp only [e, if_false]; exact (hbs _).1
  · simp (disch := omega) only [li_le1, li_le2, li_lt1, li_lt2, li_eq1, li_eq2, li_add1, li_add2, li_sub1, li_sub2, li_mul1, li_mul2, li_div2, nI_leI, nI_ltI, nI_eq, nI_add, nI_sub, nI_mul, nI_div, rI_n, rL_n, rR_n, wI_n, wL_n, li_rI, li_rL, li_rR, li_wI, li_wL, b1_s, bs_l, bs_r, oI_e, oL_e, oR_e, wZ_0, wZ_1, wZ_b, if_true, if_false, not_true_eq_false, not_false_eq_true, c1]
    exact ⟨-3, SX, SM, rfl, rfl, h⟩
