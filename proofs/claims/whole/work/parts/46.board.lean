/-! the burl: burl, crack, grain, undo, world, doubt -/
theorem wZ_0 {S : St} {k n i : Nat} (h : i < n) (hn : n < 2 ^ 31) : wZ_ S k n (nI i) 0 = some (pA_ S k i 0) := wZ_n h hn (Or.inl rfl)
theorem wZ_1 {S : St} {k n i : Nat} (h : i < n) (hn : n < 2 ^ 31) : wZ_ S k n (nI i) 1 = some (pA_ S k i 1) := wZ_n h hn (Or.inr rfl)
theorem wZ_b {S : St} {k n i : Nat} {b : Bool} (h : i < n) (hn : n < 2 ^ 31) : wZ_ S k n (nI i) (zb b) = some (pA_ S k i (zb b)) := wZ_n h hn (zb_or b)
theorem renew_x (S : St) (k w h : Nat) : ∃ S', fX1_renew k S (nI w) (nI h) = some S' ∧ BX S' k w h (fun _ => false) (fun _ => 0) ∧ Fr (fun a _ => a == k || a == k + 1) S S' := by
  unfold fX1_renew
  simp only [b1_s, bs_l, bs_r, oI_e, oL_e, oR_e]
  obtain ⟨S', hl, hF, hz⟩ := lp_inv (body := fun w24 : Int32 × St => bX1_renew_17 k w24.1 w24.2) (fun i s => s.1 = nI i ∧ Fr (fun a _ => a == k + 1) (pL_ (pI_ (pI_ S k 0 (nI w)) k 1 (nI h)) k 2 0) s.2 ∧ ∀ q, q < i → aI_ s.2 (k + 1) q = nI 0) (fun r => Fr (fun a _ => a == k + 1) (pL_ (pI_ (pI_ S k 0 (nI w)) k 1 (nI h)) k 2 0) r ∧ ∀ q, q < 64 → aI_ r (k + 1) q = nI 0) 64 (m := 5000) (s := (0, pL_ (pI_ (pI_ S k 0 (nI w)) k 1 (nI h)) k 2 0)) (by omega) ⟨rfl, Fr.refl _ _, fun q hq => absurd hq (by omega)⟩
    (fun i s hi ⟨h1, h2, h3⟩ => Or.inl ⟨(nI (i + 1), pA_ s.2 (k + 1) i 0), by
      have hn : ¬ 64 ≤ i := by omega
      unfold bX1_renew_17
      rw [h1]
      simp (disch := omega) only [li_le1, li_le2, li_lt1, li_lt2, li_eq1, li_eq2, li_add1, li_add2, li_sub1, li_sub2, li_mul1, li_mul2, li_div2, nI_leI, nI_ltI, nI_eq, nI_add, nI_sub, nI_mul, nI_div, rI_n, rL_n, rR_n, wI_n, wL_n, li_rI, li_rL, li_rR, li_wI, li_wL, b1_s, bs_l, bs_r, oI_e, oL_e, oR_e, wZ_0, wZ_1, wZ_b, if_true, if_false, not_true_eq_false, not_false_eq_true, hn], rfl, h2.pA (by simp), fun q hq => by
      rw [aI_pA]
      by_cases e : q = i
      · simp [e]; rfl
      · simp [e]; exact h3 q (by omega)⟩)
    (fun s ⟨h1, h2, h3⟩ => ⟨s.2, by
      unfold bX1_renew_17
      rw [h1]
      simp (disch := omega) only [li_le1, li_le2, li_lt1, li_lt2, li_eq1, li_eq2, li_add1, li_add2, li_sub1, li_sub2, li_mul1, li_mul2, li_div2, nI_leI, nI_ltI, nI_eq, nI_add, nI_sub, nI_mul, nI_div, rI_n, rL_n, rR_n, wI_n, wL_n, li_rI, li_rL, li_rR, li_wI, li_wL, b1_s, bs_l, bs_r, oI_e, oL_e, oR_e, wZ_0, wZ_1, wZ_b, if_true, if_false, not_true_eq_false, not_false_eq_true, Nat.le_refl], h2, h3⟩)
  rw [hl]
  refine ⟨S', rfl, ⟨?_, ?_, fun q hq => ?_, fun q hq => hz q hq⟩, ?_⟩
  · rw [hF.gI (by simp)]; simp [gI_pI, gI_pL, gI_pA, gI_pB, gI_pR, gI_pW, gL_pI, gL_pL, gL_pA, gL_pB, gL_pR, gL_pW, aI_pI, aI_pL, aI_pA, aI_pB, aI_pR, aI_pW, aL_pI, aL_pL, aL_pA, aL_pB, aL_pR, aL_pW, gR_pI, gR_pL, gR_pA, gR_pB, gR_pR, gR_pW]
  · rw [hF.gI (by simp)]; simp [gI_pI, gI_pL, gI_pA, gI_pB, gI_pR, gI_pW, gL_pI, gL_pL, gL_pA, gL_pB, gL_pR, gL_pW, aI_pI, aI_pL, aI_pA, aI_pB, aI_pR, aI_pW, aL_pI, aL_pL, aL_pA, aL_pB, aL_pR, aL_pW, gR_pI, gR_pL, gR_pA, gR_pB, gR_pR, gR_pW]
  · rw [hF.gL (by simp)]; simp [gI_pI, gI_pL, gI_pA, gI_pB, gI_pR, gI_pW, gL_pI, gL_pL, gL_pA, gL_pB, gL_pR, gL_pW, aI_pI, aI_pL, aI_pA, aI_pB, aI_pR, aI_pW, aL_pI, aL_pL, aL_pA, aL_pB, aL_pR, aL_pW, gR_pI, gR_pL, gR_pA, gR_pB, gR_pR, gR_pW, l_0]
  · refine Fr.trans ?_ (hF.mono (by intro a b z; simp at z ⊢; omega))
    exact Fr.pL (by simp) (Fr.pI (by simp) (Fr.pI (by simp) (Fr.refl _ _)))
theorem renew_m (S : St) : ∃ S', lp (fun w27 : Int32 × St => bX12_burl_48 w27.1 w27.2) 5000 (0, S) = some S' ∧ BM S' 1 2 0 (fun _ => false) (fun _ => 0) ∧ Fr (fun a _ => a == 1 || a == 2) S S' := by
  obtain ⟨S', hl, hF, hz⟩ := lp_inv (body := fun w24 : Int32 × St => bX12_burl_48 w24.1 w24.2) (fun i s => s.1 = nI i ∧ Fr (fun a _ => a == 1 || a == 2) S s.2 ∧ ∀ q, q < i → aI_ s.2 1 q = 0 ∧ aI_ s.2 2 q = nI 0) (fun r => Fr (fun a _ => a == 1 || a == 2) S r ∧ ∀ q, q < 64 → aI_ r 1 q = 0 ∧ aI_ r 2 q = nI 0) 64 (m := 5000) (s := (0, S)) (by omega) ⟨rfl, Fr.refl _ _, fun q hq => absurd hq (by omega)⟩
    (fun i s hi ⟨h1, h2, h3⟩ => Or.inl ⟨(nI (i + 1), pA_ (pA_ s.2 1 i 0) 2 i 0), by
      have hn : ¬ 64 ≤ i := by omega
      unfold bX12_burl_48
      rw [h1]
      simp (disch := omega) only [li_le1, li_le2, li_lt1, li_lt2, li_eq1, li_eq2, li_add1, li_add2, li_sub1, li_sub2, li_mul1, li_mul2, li_div2, nI_leI, nI_ltI, nI_eq, nI_add, nI_sub, nI_mul, nI_div, rI_n, rL_n, rR_n, wI_n, wL_n, li_rI, li_rL, li_rR, li_wI, li_wL, b1_s, bs_l, bs_r, oI_e, oL_e, oR_e, wZ_0, wZ_1, wZ_b, if_true, if_false, not_true_eq_false, not_false_eq_true, hn], rfl, (h2.pA (by simp)).pA (by simp), fun q hq => by
      simp only [aI_pA]
      by_cases e : q = i
      · simp [e]; rfl
      · simp [e]; exact h3 q (by omega)⟩)
    (fun s ⟨h1, h2, h3⟩ => ⟨s.2, by
      unfold bX12_burl_48
      rw [h1]
      simp (disch := omega) only [li_le1, li_le2, li_lt1, li_lt2, li_eq1, li_eq2, li_add1, li_add2, li_sub1, li_sub2, li_mul1, li_mul2, li_div2, nI_leI, nI_ltI, nI_eq, nI_add, nI_sub, nI_mul, nI_div, rI_n, rL_n, rR_n, wI_n, wL_n, li_rI, li_rL, li_rR, li_wI, li_wL, b1_s, bs_l, bs_r, oI_e, oL_e, oR_e, wZ_0, wZ_1, wZ_b, if_true, if_false, not_true_eq_false, not_false_eq_true, Nat.le_refl], h2, h3⟩)
  exact ⟨S', hl, fun q hq => by simpa [zb] using hz q hq, hF⟩
theorem sim_burl : ∀ (SX SM : St) (a1 a2 : Int32), Rel_ SX SM → ∃ (r : Int32) (S1 S2 : St), fX11_burl SX a1 a2 = some (r, S1) ∧ fX12_burl SM a1 a2 = some (r, S2) ∧ Rel_ S1 S2 := by
  intro SX SM a1 a2 h
  unfold fX11_burl fX12_burl
  simp only [within_e, (in_e SM a1 1 8 (B := 1) (C := 8) rfl rfl), (in_e SM a2 1 8 (B := 1) (C := 8) rfl rfl), b1_s, bs_l, bs_r, oI_e, oL_e, oR_e, i10]
  by_cases c1 : 1 ≤ a1 ∧ a1 ≤ 8
  · by_cases c2 : 1 ≤ a2 ∧ a2 ≤ 8
    · obtain ⟨w, hw1, hw2, rfl⟩ := in_rng (a := 1) (b := 8) (by omega) c1 (by omega)
      obtain ⟨v, hv1, hv2, rfl⟩ := in_rng (a := 1) (b := 8) (by omega) c2 (by omega)
      obtain ⟨S', e1, b1, f1⟩ := renew_x SX 1 w v
      obtain ⟨T', e2, b2, f2⟩ := renew_m (pI_ (pI_ (pI_ (pI_ SM 0 0 (nI w)) 0 1 (nI v)) 0 4 0) 0 6 0)
      simp only [c1, c2, not_true_eq_false, not_false_eq_true, if_true, if_false, and_self, true_and, and_true, and_false, false_and, e1, e2, b1_s, bs_l, bs_r, oI_e, oL_e, oR_e]
      refine ⟨1, _, _, rfl, rfl, ?_⟩
      have F1 : Fr (fun k j => k == 1 || k == 2 || (k == 3 && j == 2) || (k == 0 && j == 5)) SX (pI_ (pI_ S' 3 2 0) 0 5 0) := Fr.pI (by simp) (Fr.pI (by simp) (f1.mono (by intro a b z; simp at z ⊢; omega)))
      have F2 : Fr (fun k j => k == 1 || k == 2 || (k == 0 && (j == 0 || j == 1 || j == 4 || j == 6))) SM T' := Fr.trans (Fr.pI (by simp) (Fr.pI (by simp) (Fr.pI (by simp) (Fr.pI (by simp) (Fr.refl _ _))))) (f2.mono (by intro a b z; simp at z ⊢; omega))
      obtain ⟨hB, hS, hP, hT, hL, hH, hE⟩ := h
      refine ⟨?_, hS.fr F1 F2 (fun k j z => by simp [plX, plM, Nat.ble_eq] at z ⊢; omega) (fun k j z => by simp [plX, plM, Nat.ble_eq] at z ⊢; omega), hP.fr F1 F2 (fun k j z => by simp [plX, plM, Nat.ble_eq] at z ⊢; omega) (fun k j z => by simp [plX, plM, Nat.ble_eq] at z ⊢; omega), hT.fr F1 F2 (fun k j z => by simp [plX, plM, Nat.ble_eq] at z ⊢; omega) (fun k j z => by simp [plX, plM, Nat.ble_eq] at z ⊢; omega), hL.fr F1 F2 (fun k j z => by simp [plX, plM, Nat.ble_eq] at z ⊢; omega) (fun k j z => by simp [plX, plM, Nat.ble_eq] at z ⊢; omega), hH.fr F1 F2 (fun k j z => by simp [plX, plM, Nat.ble_eq] at z ⊢; omega) (fun k j z => by simp [plX, plM, Nat.ble_eq] at z ⊢; omega), by rw [F1.gI (by simp), F2.gI (by simp)]; exact hE⟩
      obtain ⟨w0, h0, cr, gr, a, ⟨n, nx, ac, ag, b⟩, ⟨nw, dc, c⟩⟩ := hB
      refine ⟨w, v, fun _ => false, fun _ => 0, ⟨⟨hw1, hw2, hv1, hv2⟩, fun q _ => Nat.zero_le 9, ⟨?_, ?_, ?_, ?_⟩, ?_, ?_, b2⟩, ⟨0, nx, ac, ag, ⟨by omega, b.1.2⟩, ?_, ?_, ?_, fun j hj => absurd hj (by omega)⟩, ⟨0, dc, by omega, ?_, ?_, fun i q hi => absurd hi (by omega)⟩⟩
      · simp [gI_pI, gI_pL, gI_pA, gI_pB, gI_pR, gI_pW, gL_pI, gL_pL, gL_pA, gL_pB, gL_pR, gL_pW, aI_pI, aI_pL, aI_pA, aI_pB, aI_pR, aI_pW, aL_pI, aL_pL, aL_pA, aL_pB, aL_pR, aL_pW, gR_pI, gR_pL, gR_pA, gR_pB, gR_pR, gR_pW]; exact b1.1
      · simp [gI_pI, gI_pL, gI_pA, gI_pB, gI_pR, gI_pW, gL_pI, gL_pL, gL_pA, gL_pB, gL_pR, gL_pW, aI_pI, aI_pL, aI_pA, aI_pB, aI_pR, aI_pW, aL_pI, aL_pL, aL_pA, aL_pB, aL_pR, aL_pW, gR_pI, gR_pL, gR_pA, gR_pB, gR_pR, gR_pW]; exact b1.2.1
      · simpa [gI_pI, gI_pL, gI_pA, gI_pB, gI_pR, gI_pW, gL_pI, gL_pL, gL_pA, gL_pB, gL_pR, gL_pW, aI_pI, aI_pL, aI_pA, aI_pB, aI_pR, aI_pW, aL_pI, aL_pL, aL_pA, aL_pB, aL_pR, aL_pW, gR_pI, gR_pL, gR_pA, gR_pB, gR_pR, gR_pW] using b1.2.2.1
      · simpa [gI_pI, gI_pL, gI_pA, gI_pB, gI_pR, gI_pW, gL_pI, gL_pL, gL_pA, gL_pB, gL_pR, gL_pW, aI_pI, aI_pL, aI_pA, aI_pB, aI_pR, aI_pW, aL_pI, aL_pL, aL_pA, aL_pB, aL_pR, aL_pW, gR_pI, gR_pL, gR_pA, gR_pB, gR_pR, gR_pW] using b1.2.2.2
      · rw [f2.gI (by simp)]; simp [gI_pI, gI_pL, gI_pA, gI_pB, gI_pR, gI_pW, gL_pI, gL_pL, gL_pA, gL_pB, gL_pR, gL_pW, aI_pI, aI_pL, aI_pA, aI_pB, aI_pR, aI_pW, aL_pI, aL_pL, aL_pA, aL_pB, aL_pR, aL_pW, gR_pI, gR_pL, gR_pA, gR_pB, gR_pR, gR_pW]
      · rw [f2.gI (by simp)]; simp [gI_pI, gI_pL, gI_pA, gI_pB, gI_pR, gI_pW, gL_pI, gL_pL, gL_pA, gL_pB, gL_pR, gL_pW, aI_pI, aI_pL, aI_pA, aI_pB, aI_pR, aI_pW, aL_pI, aL_pL, aL_pA, aL_pB, aL_pR, aL_pW, gR_pI, gR_pL, gR_pA, gR_pB, gR_pR, gR_pW]
      · simp [gI_pI, gI_pL, gI_pA, gI_pB, gI_pR, gI_pW, gL_pI, gL_pL, gL_pA, gL_pB, gL_pR, gL_pW, aI_pI, aI_pL, aI_pA, aI_pB, aI_pR, aI_pW, aL_pI, aL_pL, aL_pA, aL_pB, aL_pR, aL_pW, gR_pI, gR_pL, gR_pA, gR_pB, gR_pR, gR_pW]; rw [f1.gI (by simp)]; exact b.2.1
      · simp [gI_pI, gI_pL, gI_pA, gI_pB, gI_pR, gI_pW, gL_pI, gL_pL, gL_pA, gL_pB, gL_pR, gL_pW, aI_pI, aI_pL, aI_pA, aI_pB, aI_pR, aI_pW, aL_pI, aL_pL, aL_pA, aL_pB, aL_pR, aL_pW, gR_pI, gR_pL, gR_pA, gR_pB, gR_pR, gR_pW]; rfl
      · rw [f2.gI (by simp)]; simp [gI_pI, gI_pL, gI_pA, gI_pB, gI_pR, gI_pW, gL_pI, gL_pL, gL_pA, gL_pB, gL_pR, gL_pW, aI_pI, aI_pL, aI_pA, aI_pB, aI_pR, aI_pW, aL_pI, aL_pL, aL_pA, aL_pB, aL_pR, aL_pW, gR_pI, gR_pL, gR_pA, gR_pB, gR_pR, gR_pW]; rfl
      · simp [gI_pI, gI_pL, gI_pA, gI_pB, gI_pR, gI_pW, gL_pI, gL_pL, gL_pA, gL_pB, gL_pR, gL_pW, aI_pI, aI_pL, aI_pA, aI_pB, aI_pR, aI_pW, aL_pI, aL_pL, aL_pA, aL_pB, aL_pR, aL_pW, gR_pI, gR_pL, gR_pA, gR_pB, gR_pR, gR_pW]; rfl
      · rw [f2.gI (by simp)]; simp [gI_pI, gI_pL, gI_pA, gI_pB, gI_pR, gI_pW, gL_pI, gL_pL, gL_pA, gL_pB, gL_pR, gL_pW, aI_pI, aI_pL, aI_pA, aI_pB, aI_pR, aI_pW, aL_pI, aL_pL, aL_pA, aL_pB, aL_pR, aL_pW, gR_pI, gR_pL, gR_pA, gR_pB, gR_pR, gR_pW]; rfl
    · exact ⟨-1, SX, SM, by simp only [c1, c2, not_true_eq_false, not_false_eq_true, if_true, if_false, and_self, true_and, and_true, and_false, false_and], by simp only [c1, c2, not_true_eq_false, not_false_eq_true, if_true, if_false, and_self, true_and, and_true, and_false, false_and], h⟩
  · exact ⟨-1, SX, SM, by simp only [c1, not_true_eq_false, not_false_eq_true, if_true, if_false, and_self, true_and, and_true, and_false, false_and], by simp only [c1, not_true_eq_false, not_false_eq_true, if_true, if_false, and_self, true_and, and_true, and_false, false_and], h⟩
