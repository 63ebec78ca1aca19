/-! sheets: sheet, lay -/
theorem sheetR {k : Nat} (hk : k < 4) : rR_ 4 (fun i => 75 + 2 * i) (nI k) = some (75 + 2 * k) := rR_n hk (by omega)
theorem renewS_x (S : St) (k : Nat) (l n : Int32) : ∃ S', fX8_renew k S l n = some S' ∧ gI_ S' k 0 = l ∧ gI_ S' k 1 = n ∧ (∀ q, q < 64 → aI_ S' (k + 1) q = 0) ∧ Fr (fun a _ => a == k || a == k + 1) S S' := by
  unfold fX8_renew
  simp only [b1_s, bs_l, bs_r, oI_e, oL_e, oR_e]
  obtain ⟨S', hl, hF, hz⟩ := lp_inv (body := fun w23 : Int32 × St => bX8_renew_12 k w23.1 w23.2) (fun i s => s.1 = nI i ∧ Fr (fun a _ => a == k + 1) (pI_ (pI_ S k 0 l) k 1 n) s.2 ∧ ∀ q, q < i → aI_ s.2 (k + 1) q = 0) (fun r => Fr (fun a _ => a == k + 1) (pI_ (pI_ S k 0 l) k 1 n) r ∧ ∀ q, q < 64 → aI_ r (k + 1) q = 0) 64 (m := 5000) (s := (0, pI_ (pI_ S k 0 l) k 1 n)) (by omega) ⟨rfl, Fr.refl _ _, fun q hq => absurd hq (by omega)⟩
    (fun i s hi ⟨h1, h2, h3⟩ => Or.inl ⟨(nI (i + 1), pA_ s.2 (k + 1) i 0), by
      have hn : ¬ 64 ≤ i := by omega
      unfold bX8_renew_12
      rw [h1]
      simp (disch := omega) only [li_le1, li_le2, li_lt1, li_lt2, li_eq1, li_eq2, li_add1, li_add2, li_sub1, li_sub2, li_mul1, li_mul2, li_div2, nI_leI, nI_ltI, nI_eq, nI_add, nI_sub, nI_mul, nI_div, rI_n, rL_n, rR_n, wI_n, wL_n, li_rI, li_rL, li_rR, li_wI, li_wL, b1_s, bs_l, bs_r, oI_e, oL_e, oR_e, wZ_0, wZ_1, wZ_b, if_true, if_false, not_true_eq_false, not_false_eq_true, hn], rfl, h2.pA (by simp), fun q hq => by
      rw [aI_pA]
      by_cases e : q = i
      · simp [e]
      · simp [e]; exact h3 q (by omega)⟩)
    (fun s ⟨h1, h2, h3⟩ => ⟨s.2, by
      unfold bX8_renew_12
      rw [h1]
      simp (disch := omega) only [li_le1, li_le2, li_lt1, li_lt2, li_eq1, li_eq2, li_add1, li_add2, li_sub1, li_sub2, li_mul1, li_mul2, li_div2, nI_leI, nI_ltI, nI_eq, nI_add, nI_sub, nI_mul, nI_div, rI_n, rL_n, rR_n, wI_n, wL_n, li_rI, li_rL, li_rR, li_wI, li_wL, b1_s, bs_l, bs_r, oI_e, oL_e, oR_e, wZ_0, wZ_1, wZ_b, if_true, if_false, not_true_eq_false, not_false_eq_true, Nat.le_refl], h2, h3⟩)
  rw [hl]
  refine ⟨S', rfl, ?_, ?_, hz, ?_⟩
  · rw [hF.gI (by simp)]; simp [gI_pI, gI_pL, gI_pA, gI_pB, gI_pR, gI_pW, gL_pI, gL_pL, gL_pA, gL_pB, gL_pR, gL_pW, aI_pI, aI_pL, aI_pA, aI_pB, aI_pR, aI_pW, aL_pI, aL_pL, aL_pA, aL_pB, aL_pR, aL_pW, gR_pI, gR_pL, gR_pA, gR_pB, gR_pR, gR_pW]
  · rw [hF.gI (by simp)]; simp [gI_pI, gI_pL, gI_pA, gI_pB, gI_pR, gI_pW, gL_pI, gL_pL, gL_pA, gL_pB, gL_pR, gL_pW, aI_pI, aI_pL, aI_pA, aI_pB, aI_pR, aI_pW, aL_pI, aL_pL, aL_pA, aL_pB, aL_pR, aL_pW, gR_pI, gR_pL, gR_pA, gR_pB, gR_pR, gR_pW]
  · exact Fr.trans (Fr.pI (by simp) (Fr.pI (by simp) (Fr.refl _ _))) (hF.mono (by intro a b z; simp at z ⊢; omega))
theorem renewS_m {S : St} {k : Nat} (hk : k < 4) : ∃ S', lp (fun w24 : Int32 × St => bX12_sheet_40 (nI k) w24.1 w24.2) 5000 (0, S) = some S' ∧ (∀ q, q < 64 → aI_ S' 41 (64 * k + q) = 0) ∧ (∀ q, (q < 64 * k ∨ 64 * k + 64 ≤ q) → aI_ S' 41 q = aI_ S 41 q) ∧ Fr (fun a _ => a == 41) S S' := by
  obtain ⟨S', hl, hF, hz, ho⟩ := lp_inv (body := fun w24 : Int32 × St => bX12_sheet_40 (nI k) w24.1 w24.2) (fun i s => s.1 = nI i ∧ Fr (fun a _ => a == 41) S s.2 ∧ (∀ q, q < i → aI_ s.2 41 (64 * k + q) = 0) ∧ (∀ q, (q < 64 * k ∨ 64 * k + 64 ≤ q) → aI_ s.2 41 q = aI_ S 41 q)) (fun r => Fr (fun a _ => a == 41) S r ∧ (∀ q, q < 64 → aI_ r 41 (64 * k + q) = 0) ∧ (∀ q, (q < 64 * k ∨ 64 * k + 64 ≤ q) → aI_ r 41 q = aI_ S 41 q)) 64 (m := 5000) (s := (0, S)) (by omega) ⟨rfl, Fr.refl _ _, fun q hq => absurd hq (by omega), fun q _ => rfl⟩
    (fun i s hi ⟨h1, h3, h4, h5⟩ => Or.inl ⟨(nI (i + 1), pA_ s.2 41 (64 * k + i) 0), by
      have hn : ¬ 64 ≤ i := by omega
      unfold bX12_sheet_40
      rw [h1]
      simp (disch := omega) only [li_le1, li_le2, li_lt1, li_lt2, li_eq1, li_eq2, li_add1, li_add2, li_sub1, li_sub2, li_mul1, li_mul2, li_div2, nI_leI, nI_ltI, nI_eq, nI_add, nI_sub, nI_mul, nI_div, rI_n, rL_n, rR_n, wI_n, wL_n, li_rI, li_rL, li_rR, li_wI, li_wL, b1_s, bs_l, bs_r, oI_e, oL_e, oR_e, wZ_0, wZ_1, wZ_b, if_true, if_false, not_true_eq_false, not_false_eq_true, hn], rfl, h3.pA (by simp), fun q hq => by
      simp only [aI_pA]
      by_cases e : q = i
      · simp [e]
      · simp [e]; exact h4 q (by omega), fun q hq => by
      simp only [aI_pA]
      rw [if_neg (by omega)]
      exact h5 q hq⟩)
    (fun s ⟨h1, h3, h4, h5⟩ => ⟨s.2, by
      unfold bX12_sheet_40
      rw [h1]
      simp (disch := omega) only [li_le1, li_le2, li_lt1, li_lt2, li_eq1, li_eq2, li_add1, li_add2, li_sub1, li_sub2, li_mul1, li_mul2, li_div2, nI_leI, nI_ltI, nI_eq, nI_add, nI_sub, nI_mul, nI_div, rI_n, rL_n, rR_n, wI_n, wL_n, li_rI, li_rL, li_rR, li_wI, li_wL, b1_s, bs_l, bs_r, oI_e, oL_e, oR_e, wZ_0, wZ_1, wZ_b, if_true, if_false, not_true_eq_false, not_false_eq_true, Nat.le_refl], h3, h4, h5⟩)
  exact ⟨S', hl, hz, ho, hF⟩
theorem isSheet_e (S : St) (a b : Int32) : fX12_isSheet S a b = some (if (0 ≤ a ∧ a ≤ 3) ∧ (0 ≤ b ∧ b ≤ 2) then 1 else 0) := by
  unfold fX12_isSheet
  simp only [(in_e S a 0 3 (B := 0) (C := 3) rfl rfl), (in_e S b 0 2 (B := 0) (C := 2) rfl rfl), b1_s, bs_l, bs_r, oI_e, oL_e, oR_e, i10]
  by_cases c1 : 0 ≤ a ∧ a ≤ 3
  · by_cases c2 : 0 ≤ b ∧ b ≤ 2
    · simp only [c1, c2, not_true_eq_false, not_false_eq_true, if_true, if_false, and_self, true_and, and_true, and_false, false_and]
    · simp only [c1, c2, not_true_eq_false, not_false_eq_true, if_true, if_false, and_self, true_and, and_true, and_false, false_and]
  · simp only [c1, not_true_eq_false, not_false_eq_true, if_true, if_false, and_self, true_and, and_true, and_false, false_and]
theorem sim_sheet : ∀ (SX SM : St) (a1 a2 a3 : Int32), Rel_ SX SM → ∃ (r : Int32) (S1 S2 : St), fX11_sheet SX a1 a2 a3 = some (r, S1) ∧ fX12_sheet SM a1 a2 a3 = some (r, S2) ∧ Rel_ S1 S2 := by
  intro SX SM a1 a2 a3 h
  obtain ⟨hB, hS, hP, hT, hL, hH, hE⟩ := id h
  unfold fX11_sheet fX12_sheet
  rw [isSheet_e]
  simp only [within_e, b1_s, bs_l, bs_r, oI_e, oL_e, oR_e, i10]
  by_cases c1 : 0 ≤ a1 ∧ a1 ≤ 3
  · by_cases c2 : 0 ≤ a2 ∧ a2 ≤ 2
    · simp only [c1, c2, not_true_eq_false, not_false_eq_true, if_true, if_false, and_self, true_and, and_true, and_false, false_and]
      by_cases c3 : a3 ≤ 64
      · by_cases c4 : 0 ≤ a3
        · obtain ⟨k, _, hk, rfl⟩ := in_rng (a := 0) (b := 3) (by omega) c1 (by omega)
          obtain ⟨l, _, hl, rfl⟩ := in_rng (a := 0) (b := 2) (by omega) c2 (by omega)
          obtain ⟨n, _, hn, rfl⟩ := in_rng (a := 0) (b := 64) (by omega) ⟨c4, c3⟩ (by omega)
          have hk4 : k < 4 := by omega
          obtain ⟨S', e1, x1, x2, x3, F1⟩ := renewS_x SX (75 + 2 * k) (nI l) (nI n)
          obtain ⟨T', e2, y1, y2, f2⟩ := renewS_m (S := pA_ (pA_ SM 39 k (nI l)) 40 k (nI n)) hk4
          simp only [c3, c4, if_true, sheetR hk4]
          simp (disch := omega) only [li_le1, li_le2, li_lt1, li_lt2, li_eq1, li_eq2, li_add1, li_add2, li_sub1, li_sub2, li_mul1, li_mul2, li_div2, nI_leI, nI_ltI, nI_eq, nI_add, nI_sub, nI_mul, nI_div, rI_n, rL_n, rR_n, wI_n, wL_n, li_rI, li_rL, li_rR, li_wI, li_wL, b1_s, bs_l, bs_r, oI_e, oL_e, oR_e, wZ_0, wZ_1, wZ_b, if_true, if_false, not_true_eq_false, not_false_eq_true, e1, e2]
          have F2 : Fr (fun a b => a == 39 || a == 40 || a == 41) SM T' := Fr.trans (Fr.pA (by simp) (Fr.pA (by simp) (Fr.refl _ _))) (f2.mono (by intro a b z; simp at z ⊢; omega))
          have F1' : Fr (fun a b => decide (75 ≤ a) && decide (a ≤ 82)) SX S' := F1.mono (by intro a b z; simp at z ⊢; omega)
          refine ⟨_, _, _, rfl, rfl, hB.fr F1' F2 (fun k j z => by simp [plX, plM, Nat.ble_eq] at z ⊢; omega) (fun k j z => by simp [plX, plM, Nat.ble_eq] at z ⊢; omega), hS.fr F1' F2 (fun k j z => by simp [plX, plM, Nat.ble_eq] at z ⊢; omega) (fun k j z => by simp [plX, plM, Nat.ble_eq] at z ⊢; omega), hP.fr F1' F2 (fun k j z => by simp [plX, plM, Nat.ble_eq] at z ⊢; omega) (fun k j z => by simp [plX, plM, Nat.ble_eq] at z ⊢; omega), hT.fr F1' F2 (fun k j z => by simp [plX, plM, Nat.ble_eq] at z ⊢; omega) (fun k j z => by simp [plX, plM, Nat.ble_eq] at z ⊢; omega), hL.fr F1' F2 (fun k j z => by simp [plX, plM, Nat.ble_eq] at z ⊢; omega) (fun k j z => by simp [plX, plM, Nat.ble_eq] at z ⊢; omega), fun j hj => ?_, by rw [F1'.gI (by simp), F2.gI (by simp)]; exact hE⟩
          by_cases e : j = k
          · subst e
            refine ⟨n, some l, fun _ => 0, ⟨hn, fun l' hl' => by cases hl'; exact hl⟩, x1, x2, fun i hi => by rw [show 76 + 2 * j = 75 + 2 * j + 1 by omega]; exact x3 i hi, ?_, ?_, fun i hi => y1 i hi⟩
            · rw [f2.aI (by simp)]; simp [gI_pI, gI_pL, gI_pA, gI_pB, gI_pR, gI_pW, gL_pI, gL_pL, gL_pA, gL_pB, gL_pR, gL_pW, aI_pI, aI_pL, aI_pA, aI_pB, aI_pR, aI_pW, aL_pI, aL_pL, aL_pA, aL_pB, aL_pR, aL_pW, gR_pI, gR_pL, gR_pA, gR_pB, gR_pR, gR_pW]; rfl
            · rw [f2.aI (by simp)]; simp [gI_pI, gI_pL, gI_pA, gI_pB, gI_pR, gI_pW, gL_pI, gL_pL, gL_pA, gL_pB, gL_pR, gL_pW, aI_pI, aI_pL, aI_pA, aI_pB, aI_pR, aI_pW, aL_pI, aL_pL, aL_pA, aL_pB, aL_pR, aL_pW, gR_pI, gR_pL, gR_pA, gR_pB, gR_pR, gR_pW]
          · obtain ⟨sz, ln, ce, b0, b1, b2, b3, b4, b5, b6⟩ := hH j hj
            refine ⟨sz, ln, ce, b0, ?_, ?_, fun i hi => ?_, ?_, ?_, fun i hi => ?_⟩
            · rw [F1.gI (by simp; omega)]; exact b1
            · rw [F1.gI (by simp; omega)]; exact b2
            · rw [F1.aI (by simp; omega)]; exact b3 i hi
            · rw [f2.aI (by simp)]; simp [gI_pI, gI_pL, gI_pA, gI_pB, gI_pR, gI_pW, gL_pI, gL_pL, gL_pA, gL_pB, gL_pR, gL_pW, aI_pI, aI_pL, aI_pA, aI_pB, aI_pR, aI_pW, aL_pI, aL_pL, aL_pA, aL_pB, aL_pR, aL_pW, gR_pI, gR_pL, gR_pA, gR_pB, gR_pR, gR_pW, e]; exact b4
            · rw [f2.aI (by simp)]; simp [gI_pI, gI_pL, gI_pA, gI_pB, gI_pR, gI_pW, gL_pI, gL_pL, gL_pA, gL_pB, gL_pR, gL_pW, aI_pI, aI_pL, aI_pA, aI_pB, aI_pR, aI_pW, aL_pI, aL_pL, aL_pA, aL_pB, aL_pR, aL_pW, gR_pI, gR_pL, gR_pA, gR_pB, gR_pR, gR_pW, e]; exact b5
            · rw [y2 _ (by omega)]; simp [gI_pI, gI_pL, gI_pA, gI_pB, gI_pR, gI_pW, gL_pI, gL_pL, gL_pA, gL_pB, gL_pR, gL_pW, aI_pI, aI_pL, aI_pA, aI_pB, aI_pR, aI_pW, aL_pI, aL_pL, aL_pA, aL_pB, aL_pR, aL_pW, gR_pI, gR_pL, gR_pA, gR_pB, gR_pR, gR_pW]; exact b6 i hi
        · simp only [c3, c4, if_true, if_false]
          exact ⟨-14, SX, SM, rfl, rfl, h⟩
      · simp only [c3, if_false]
        exact ⟨-1, SX, SM, rfl, rfl, h⟩
    · exact ⟨-1, SX, SM, by simp only [c1, c2, not_true_eq_false, not_false_eq_true, if_true, if_false, and_self, true_and, and_true, and_false, false_and], by simp only [c1, c2, not_true_eq_false, not_false_eq_true, if_true, if_false, and_self, true_and, and_true, and_false, false_and], h⟩
  · exact ⟨-1, SX, SM, by simp only [c1, not_true_eq_false, not_false_eq_true, if_true, if_false, and_self, true_and, and_true, and_false, false_and], by simp only [c1, not_true_eq_false, not_false_eq_true, if_true, if_false, and_self, true_and, and_true, and_false, false_and], h⟩
theorem sl_m1 {o : Option Nat} (h : ∀ l, o = some l → l ≤ 2) : (sl o = -1) ↔ o = none := by
  cases o with
  | none => simp [sl]
  | some x =>
    have := h x rfl
    simp only [sl, m1_ne (show x < 2 ^ 31 by omega), reduceCtorEq]
theorem sv_m4' {o : Option Nat} (h : ∀ l, o = some l → l ≤ 2) : (sv o = -4) ↔ o = none := sv_m4 (fun x hx => by have := h x hx; omega)
theorem has_s {S : St} {k n : Nat} (h1 : gI_ S k 1 = nI n) (a : Int32) : fX8_has k S a = some (if 0 ≤ a ∧ a ≤ nI n - 1 then 1 else 0) := by
  unfold fX8_has
  rw [within_e, h1]
  simp only [b1_s, bs_l, bs_r, oI_e, oL_e, oR_e, bz_i]
theorem nothing_e {S : St} {k : Nat} {o : Option Nat} (h1 : gI_ S k 0 = sl o) (h : ∀ l, o = some l → l ≤ 2) : fX8_isNothing k S = some (zb o.isNone) := by
  unfold fX8_isNothing
  rw [h1]
  cases o with
  | none => rfl
  | some x =>
    have := h x rfl
    rw [if_neg (by rw [sl_m1 h]; simp)]; rfl
theorem sim_lay : ∀ (SX SM : St) (a1 a2 a3 : Int32), Rel_ SX SM → ∃ (r : Int32) (S1 S2 : St), fX11_lay SX a1 a2 a3 = some (r, S1) ∧ fX12_lay SM a1 a2 a3 = some (r, S2) ∧ Rel_ S1 S2 := by
  intro SX SM a1 a2 a3 h
  obtain ⟨hB, hS, hP, hT, hL, hH, hE⟩ := id h
  unfold fX11_lay fX12_lay
  rw [isSheet_e]
  simp only [within_e, b1_s, bs_l, bs_r, oI_e, oL_e, oR_e, i10]
  by_cases c1 : 0 ≤ a1 ∧ a1 ≤ 3
  · obtain ⟨k, _, hk, rfl⟩ := in_rng (a := 0) (b := 3) (by omega) c1 (by omega)
    have hk4 : k < 4 := by omega
    have c0 : (0 : Int32) ≤ 0 ∧ (0 : Int32) ≤ 2 := by decide
    obtain ⟨sz, ln, ce, ⟨u0, bl⟩, u1, u2, u3, u4, u5, u6⟩ := hH k hk4
    simp only [c1, c0, not_true_eq_false, not_false_eq_true, if_true, if_false, and_self, true_and, and_true, and_false, false_and, sheetR hk4, b1_s, bs_l, bs_r, oI_e, oL_e, oR_e, nothing_e u1 bl, zb_0]
    simp (disch := omega) only [li_le1, li_le2, li_lt1, li_lt2, li_eq1, li_eq2, li_add1, li_add2, li_sub1, li_sub2, li_mul1, li_mul2, li_div2, nI_leI, nI_ltI, nI_eq, nI_add, nI_sub, nI_mul, nI_div, rI_n, rL_n, rR_n, wI_n, wL_n, li_rI, li_rL, li_rR, li_wI, li_wL, b1_s, bs_l, bs_r, oI_e, oL_e, oR_e, wZ_0, wZ_1, wZ_b, if_true, if_false, not_true_eq_false, not_false_eq_true, u4, u5, sv_m4' bl]
    cases ln with
    | none =>
      exact ⟨-11, SX, SM, by simp, by simp, h⟩
    | some l =>
      have hl := bl l rfl
      have ein := in_e SM a2 0 (nI sz - 1) (B := 0) rfl rfl
      simp only [Option.isNone_some, if_true, reduceCtorEq, if_false, has_s u2, b1_s, bs_l, bs_r, oI_e, oL_e, oR_e, ein, i10]
      by_cases c2 : 0 ≤ a2 ∧ a2 ≤ nI sz - 1
      · obtain ⟨i, hi, rfl⟩ := (in_nat (by omega)).mp c2
        have i64 : i < 64 := by omega
        have put : ∃ v, fX8_put (75 + 2 * k) SX (nI i) a3 = some (pA_ SX (75 + 2 * k + 1) i v) ∧ (if sv (some l) = 0 then b1 (wI_ SM 41 256 (nI (64 * k + i)) (a3.toInt8.toInt32)) fun S30 => some (1, S30) else if sv (some l) = 1 then b1 (wI_ SM 41 256 (nI (64 * k + i)) (a3.toInt16.toInt32)) fun S28 => some (1, S28) else b1 (wI_ SM 41 256 (nI (64 * k + i)) a3) fun S27 => some (1, S27) : Option (Int32 × St)) = some (1, pA_ SM 41 (64 * k + i) v) := by
          unfold fX8_put
          rw [u1]
          simp only [sl, sv]
          simp (disch := omega) only [li_le1, li_le2, li_lt1, li_lt2, li_eq1, li_eq2, li_add1, li_add2, li_sub1, li_sub2, li_mul1, li_mul2, li_div2, nI_leI, nI_ltI, nI_eq, nI_add, nI_sub, nI_mul, nI_div, rI_n, rL_n, rR_n, wI_n, wL_n, li_rI, li_rL, li_rR, li_wI, li_wL, b1_s, bs_l, bs_r, oI_e, oL_e, oR_e, wZ_0, wZ_1, wZ_b, if_true, if_false, not_true_eq_false, not_false_eq_true]
          by_cases z0 : l = 0
          · exact ⟨_, by rw [if_pos z0], by rw [if_pos z0]⟩
          · by_cases z1 : l = 1
            · exact ⟨_, by rw [if_neg z0, if_pos z1], by rw [if_neg z0, if_pos z1]⟩
            · exact ⟨_, by rw [if_neg z0, if_neg z1], by rw [if_neg z0, if_neg z1]⟩
        obtain ⟨v, p1, p2⟩ := put
        simp only [c2, not_true_eq_false, not_false_eq_true, if_true, if_false, and_self, true_and, and_true, and_false, false_and, p1, b1_s, bs_l, bs_r, oI_e, oL_e, oR_e]
        simp (disch := omega) only [li_le1, li_le2, li_lt1, li_lt2, li_eq1, li_eq2, li_add1, li_add2, li_sub1, li_sub2, li_mul1, li_mul2, li_div2, nI_leI, nI_ltI, nI_eq, nI_add, nI_sub, nI_mul, nI_div, rI_n, rL_n, rR_n, wI_n, wL_n, li_rI, li_rL, li_rR, li_wI, li_wL, b1_s, bs_l, bs_r, oI_e, oL_e, oR_e, wZ_0, wZ_1, wZ_b, if_true, if_false, not_true_eq_false, not_false_eq_true] at p2 ⊢
        refine ⟨_, _, _, rfl, p2, ?_⟩
        have F1 : Fr (fun a b => decide (75 ≤ a) && decide (a ≤ 82)) SX (pA_ SX (75 + 2 * k + 1) i v) := Fr.pA (by simp; omega) (Fr.refl _ _)
        have F2 : Fr (fun a b => a == 41) SM (pA_ SM 41 (64 * k + i) v) := Fr.pA (by simp) (Fr.refl _ _)
        refine ⟨hB.fr F1 F2 (fun k j z => by simp [plX, plM, Nat.ble_eq] at z ⊢; omega) (fun k j z => by simp [plX, plM, Nat.ble_eq] at z ⊢; omega), hS.fr F1 F2 (fun k j z => by simp [plX, plM, Nat.ble_eq] at z ⊢; omega) (fun k j z => by simp [plX, plM, Nat.ble_eq] at z ⊢; omega), hP.fr F1 F2 (fun k j z => by simp [plX, plM, Nat.ble_eq] at z ⊢; omega) (fun k j z => by simp [plX, plM, Nat.ble_eq] at z ⊢; omega), hT.fr F1 F2 (fun k j z => by simp [plX, plM, Nat.ble_eq] at z ⊢; omega) (fun k j z => by simp [plX, plM, Nat.ble_eq] at z ⊢; omega), hL.fr F1 F2 (fun k j z => by simp [plX, plM, Nat.ble_eq] at z ⊢; omega) (fun k j z => by simp [plX, plM, Nat.ble_eq] at z ⊢; omega), fun j hj => ?_, by rw [F1.gI (by simp), F2.gI (by simp)]; exact hE⟩
        by_cases e : j = k
        · subst e
          refine ⟨sz, some l, at_ ce i v, ⟨u0, bl⟩, by simp only [gI_pI, gI_pL, gI_pA, gI_pB, gI_pR, gI_pW, gL_pI, gL_pL, gL_pA, gL_pB, gL_pR, gL_pW, aI_pI, aI_pL, aI_pA, aI_pB, aI_pR, aI_pW, aL_pI, aL_pL, aL_pA, aL_pB, aL_pR, aL_pW, gR_pI, gR_pL, gR_pA, gR_pB, gR_pR, gR_pW]; exact u1, by simp only [gI_pI, gI_pL, gI_pA, gI_pB, gI_pR, gI_pW, gL_pI, gL_pL, gL_pA, gL_pB, gL_pR, gL_pW, aI_pI, aI_pL, aI_pA, aI_pB, aI_pR, aI_pW, aL_pI, aL_pL, aL_pA, aL_pB, aL_pR, aL_pW, gR_pI, gR_pL, gR_pA, gR_pB, gR_pR, gR_pW]; exact u2, fun q hq => ?_, by simp only [gI_pI, gI_pL, gI_pA, gI_pB, gI_pR, gI_pW, gL_pI, gL_pL, gL_pA, gL_pB, gL_pR, gL_pW, aI_pI, aI_pL, aI_pA, aI_pB, aI_pR, aI_pW, aL_pI, aL_pL, aL_pA, aL_pB, aL_pR, aL_pW, gR_pI, gR_pL, gR_pA, gR_pB, gR_pR, gR_pW]; simp; exact u4, by simp only [gI_pI, gI_pL, gI_pA, gI_pB, gI_pR, gI_pW, gL_pI, gL_pL, gL_pA, gL_pB, gL_pR, gL_pW, aI_pI, aI_pL, aI_pA, aI_pB, aI_pR, aI_pW, aL_pI, aL_pL, aL_pA, aL_pB, aL_pR, aL_pW, gR_pI, gR_pL, gR_pA, gR_pB, gR_pR, gR_pW]; simp; exact u5, fun q hq => ?_⟩
          · simp only [gI_pI, gI_pL, gI_pA, gI_pB, gI_pR, gI_pW, gL_pI, gL_pL, gL_pA, gL_pB, gL_pR, gL_pW, aI_pI, aI_pL, aI_pA, aI_pB, aI_pR, aI_pW, aL_pI, aL_pL, aL_pA, aL_pB, aL_pR, aL_pW, gR_pI, gR_pL, gR_pA, gR_pB, gR_pR, gR_pW]
            by_cases z : q = i
            · subst z; rw [if_pos (by omega), at_s]
            · rw [if_neg (by omega), at_o _ _ z]; exact u3 q hq
          · simp only [gI_pI, gI_pL, gI_pA, gI_pB, gI_pR, gI_pW, gL_pI, gL_pL, gL_pA, gL_pB, gL_pR, gL_pW, aI_pI, aI_pL, aI_pA, aI_pB, aI_pR, aI_pW, aL_pI, aL_pL, aL_pA, aL_pB, aL_pR, aL_pW, gR_pI, gR_pL, gR_pA, gR_pB, gR_pR, gR_pW]
            by_cases z : q = i
            · subst z; simp [at_s]
            · rw [if_neg (by omega), at_o _ _ z]; exact u6 q hq
        · obtain ⟨sz', ln', ce', d0, d1, d2, d3, d4, d5, d6⟩ := hH j hj
          refine ⟨sz', ln', ce', d0, by simp only [gI_pI, gI_pL, gI_pA, gI_pB, gI_pR, gI_pW, gL_pI, gL_pL, gL_pA, gL_pB, gL_pR, gL_pW, aI_pI, aI_pL, aI_pA, aI_pB, aI_pR, aI_pW, aL_pI, aL_pL, aL_pA, aL_pB, aL_pR, aL_pW, gR_pI, gR_pL, gR_pA, gR_pB, gR_pR, gR_pW]; exact d1, by simp only [gI_pI, gI_pL, gI_pA, gI_pB, gI_pR, gI_pW, gL_pI, gL_pL, gL_pA, gL_pB, gL_pR, gL_pW, aI_pI, aI_pL, aI_pA, aI_pB, aI_pR, aI_pW, aL_pI, aL_pL, aL_pA, aL_pB, aL_pR, aL_pW, gR_pI, gR_pL, gR_pA, gR_pB, gR_pR, gR_pW]; exact d2, fun q hq => ?_, by simp only [gI_pI, gI_pL, gI_pA, gI_pB, gI_pR, gI_pW, gL_pI, gL_pL, gL_pA, gL_pB, gL_pR, gL_pW, aI_pI, aI_pL, aI_pA, aI_pB, aI_pR, aI_pW, aL_pI, aL_pL, aL_pA, aL_pB, aL_pR, aL_pW, gR_pI, gR_pL, gR_pA, gR_pB, gR_pR, gR_pW]; simp; exact d4, by simp only [gI_pI, gI_pL, gI_pA, gI_pB, gI_pR, gI_pW, gL_pI, gL_pL, gL_pA, gL_pB, gL_pR, gL_pW, aI_pI, aI_pL, aI_pA, aI_pB, aI_pR, aI_pW, aL_pI, aL_pL, aL_pA, aL_pB, aL_pR, aL_pW, gR_pI, gR_pL, gR_pA, gR_pB, gR_pR, gR_pW]; simp; exact d5, fun q hq => ?_⟩
          · simp only [gI_pI, gI_pL, gI_pA, gI_pB, gI_pR, gI_pW, gL_pI, gL_pL, gL_pA, gL_pB, gL_pR, gL_pW, aI_pI, aI_pL, aI_pA, aI_pB, aI_pR, aI_pW, aL_pI, aL_pL, aL_pA, aL_pB, aL_pR, aL_pW, gR_pI, gR_pL, gR_pA, gR_pB, gR_pR, gR_pW]; rw [if_neg (by omega)]; exact d3 q hq
          · simp only [gI_pI, gI_pL, gI_pA, gI_pB, gI_pR, gI_pW, gL_pI, gL_pL, gL_pA, gL_pB, gL_pR, gL_pW, aI_pI, aI_pL, aI_pA, aI_pB, aI_pR, aI_pW, aL_pI, aL_pL, aL_pA, aL_pB, aL_pR, aL_pW, gR_pI, gR_pL, gR_pA, gR_pB, gR_pR, gR_pW]; rw [if_neg (by omega)]; exact d6 q hq
      · exact ⟨-12, SX, SM, by simp only [c2, not_true_eq_false, not_false_eq_true, if_true, if_false, and_self, true_and, and_true, and_false, false_and], by simp only [c2, not_true_eq_false, not_false_eq_true, if_true, if_false, and_self, true_and, and_true, and_false, false_and], h⟩
  · exact ⟨-1, SX, SM, by simp only [c1, not_true_eq_false, not_false_eq_true, if_true, if_false, and_self, true_and, and_true, and_false, false_and], by simp only [c1, not_true_eq_false, not_false_eq_true, if_true, if_false, and_self, true_and, and_true, and_false, false_and], h⟩
