/-! worlds, shapes, stock, orders -/
theorem world_m {S : St} {n : Nat} (h2 : gI_ S 0 4 = nI n) (hn : n ≤ 3) : ∃ S', lp (fun w21 : Int32 × St => bX12_world_13 w21.1 w21.2) 5000 (0, S) = some S' ∧ (∀ q, q < 64 → aI_ S' 3 (64 * n + q) = 0) ∧ (∀ q, q < 64 * n → aI_ S' 3 q = aI_ S 3 q) ∧ Fr (fun a _ => a == 3) S S' := by
  obtain ⟨S', hl, hF, hz, ho⟩ := lp_inv (body := fun w21 : Int32 × St => bX12_world_13 w21.1 w21.2) (fun i s => s.1 = nI i ∧ Fr (fun a _ => a == 3) S s.2 ∧ (∀ q, q < i → aI_ s.2 3 (64 * n + q) = 0) ∧ (∀ q, q < 64 * n → aI_ s.2 3 q = aI_ S 3 q)) (fun r => Fr (fun a _ => a == 3) S r ∧ (∀ q, q < 64 → aI_ r 3 (64 * n + q) = 0) ∧ (∀ q, q < 64 * n → aI_ r 3 q = aI_ S 3 q)) 64 (m := 5000) (s := (0, S)) (by omega) ⟨rfl, Fr.refl _ _, fun q hq => absurd hq (by omega), fun q _ => rfl⟩
    (fun i s hi ⟨h1, h3, h4, h5⟩ => Or.inl ⟨(nI (i + 1), pA_ s.2 3 (64 * n + i) 0), by
      have hn : ¬ 64 ≤ i := by omega
      unfold bX12_world_13
      have g : gI_ s.2 0 4 = nI n := by rw [h3.gI (by simp)]; exact h2
      rw [h1]
      simp (disch := omega) only [li_le1, li_le2, li_lt1, li_lt2, li_eq1, li_eq2, li_add1, li_add2, li_sub1, li_sub2, li_mul1, li_mul2, li_div2, nI_leI, nI_ltI, nI_eq, nI_add, nI_sub, nI_mul, nI_div, rI_n, rL_n, rR_n, wI_n, wL_n, li_rI, li_rL, li_rR, li_wI, li_wL, b1_s, bs_l, bs_r, oI_e, oL_e, oR_e, wZ_0, wZ_1, wZ_b, if_true, if_false, not_true_eq_false, not_false_eq_true, hn, g], rfl, h3.pA (by simp), fun q hq => by
      simp only [aI_pA]
      by_cases e : q = i
      · simp [e]
      · simp [e]; exact h4 q (by omega), fun q hq => by
      simp only [aI_pA]
      rw [if_neg (by omega)]
      exact h5 q hq⟩)
    (fun s ⟨h1, h3, h4, h5⟩ => ⟨s.2, by
      unfold bX12_world_13
      rw [h1]
      simp (disch := omega) only [li_le1, li_le2, li_lt1, li_lt2, li_eq1, li_eq2, li_add1, li_add2, li_sub1, li_sub2, li_mul1, li_mul2, li_div2, nI_leI, nI_ltI, nI_eq, nI_add, nI_sub, nI_mul, nI_div, rI_n, rL_n, rR_n, wI_n, wL_n, li_rI, li_rL, li_rR, li_wI, li_wL, b1_s, bs_l, bs_r, oI_e, oL_e, oR_e, wZ_0, wZ_1, wZ_b, if_true, if_false, not_true_eq_false, not_false_eq_true, Nat.le_refl], h3, h4, h5⟩)
  exact ⟨S', hl, hz, ho, hF⟩
theorem sim_world : ∀ (SX SM : St), Rel_ SX SM → ∃ (r : Int32) (S1 S2 : St), fX11_world SX = some (r, S1) ∧ fX12_world SM = some (r, S2) ∧ Rel_ S1 S2 := by
  intro SX SM h
  obtain ⟨hB, hS, hP, hT, hL, hH, hE⟩ := id h
  obtain ⟨w, v, cr, gr, hb, ⟨n, nx, ac, ag, ha⟩, ⟨nw, dc, hn, c1, c2, c3⟩⟩ := hB
  unfold fX11_world fX12_world
  rw [c1, c2]
  by_cases c : nw = 4
  · have c' : ¬ nw < 4 := by omega
    simp (disch := omega) only [li_le1, li_le2, li_lt1, li_lt2, li_eq1, li_eq2, li_add1, li_add2, li_sub1, li_sub2, li_mul1, li_mul2, li_div2, nI_leI, nI_ltI, nI_eq, nI_add, nI_sub, nI_mul, nI_div, rI_n, rL_n, rR_n, wI_n, wL_n, li_rI, li_rL, li_rR, li_wI, li_wL, b1_s, bs_l, bs_r, oI_e, oL_e, oR_e, wZ_0, wZ_1, wZ_b, if_true, if_false, not_true_eq_false, not_false_eq_true, c, c', Nat.lt_irrefl]
    exact ⟨-3, SX, SM, rfl, rfl, h⟩
  · have c' : nw < 4 := by omega
    obtain ⟨SM', e1, z1, z2, f2⟩ := world_m c2 (by omega)
    have g2 : gI_ SM' 0 4 = nI nw := by rw [f2.gI (by simp)]; exact c2
    simp (disch := omega) only [li_le1, li_le2, li_lt1, li_lt2, li_eq1, li_eq2, li_add1, li_add2, li_sub1, li_sub2, li_mul1, li_mul2, li_div2, nI_leI, nI_ltI, nI_eq, nI_add, nI_sub, nI_mul, nI_div, rI_n, rL_n, rR_n, wI_n, wL_n, li_rI, li_rL, li_rR, li_wI, li_wL, b1_s, bs_l, bs_r, oI_e, oL_e, oR_e, wZ_0, wZ_1, wZ_b, if_true, if_false, not_true_eq_false, not_false_eq_true, c, c', e1, g2, gI_pI, gI_pL, gI_pA, gI_pB, gI_pR, gI_pW, gL_pI, gL_pL, gL_pA, gL_pB, gL_pR, gL_pW, aI_pI, aI_pL, aI_pA, aI_pB, aI_pR, aI_pW, aL_pI, aL_pL, aL_pA, aL_pB, aL_pR, aL_pW, gR_pI, gR_pL, gR_pA, gR_pB, gR_pR, gR_pW, c1, and_self, Nat.add_sub_cancel]
    refine ⟨_, _, _, rfl, rfl, ?_⟩
    have F1 : Fr (fun a b => a == 36 || (a == 0 && b == 5)) SX (pI_ (pB_ SX 36 nw 0) 0 5 (nI (nw + 1))) := Fr.pI (by simp) (Fr.pB (by simp) (Fr.refl _ _))
    have F2 : Fr (fun a b => a == 3 || (a == 0 && b == 4)) SM (pI_ SM' 0 4 (nI (nw + 1))) := Fr.pI (by simp) (f2.mono (by intro a b z; simp at z ⊢; omega))
    refine ⟨⟨w, v, cr, gr, hb.fr F1 F2 (fun j => rfl) (fun j => rfl) rfl rfl (fun j => rfl) (fun j => rfl), ⟨n, nx, ac, ag, ha.fr F1 F2 rfl rfl (fun k j z1 z2 => by simp; omega) rfl (fun j => rfl) (fun j => rfl)⟩, ⟨nw + 1, fun i q => if i = nw then false else dc i q, by omega, ?_, ?_, fun i q hi hq => ?_⟩⟩, hS.fr F1 F2 (fun k j z => by simp [plX, plM, Nat.ble_eq] at z ⊢; omega) (fun k j z => by simp [plX, plM, Nat.ble_eq] at z ⊢; omega), hP.fr F1 F2 (fun k j z => by simp [plX, plM, Nat.ble_eq] at z ⊢; omega) (fun k j z => by simp [plX, plM, Nat.ble_eq] at z ⊢; omega), hT.fr F1 F2 (fun k j z => by simp [plX, plM, Nat.ble_eq] at z ⊢; omega) (fun k j z => by simp [plX, plM, Nat.ble_eq] at z ⊢; omega), hL.fr F1 F2 (fun k j z => by simp [plX, plM, Nat.ble_eq] at z ⊢; omega) (fun k j z => by simp [plX, plM, Nat.ble_eq] at z ⊢; omega), hH.fr F1 F2 (fun k j z => by simp [plX, plM, Nat.ble_eq] at z ⊢; omega) (fun k j z => by simp [plX, plM, Nat.ble_eq] at z ⊢; omega), by rw [F1.gI (by simp), F2.gI (by simp)]; exact hE⟩
    · simp [gI_pI, gI_pL, gI_pA, gI_pB, gI_pR, gI_pW, gL_pI, gL_pL, gL_pA, gL_pB, gL_pR, gL_pW, aI_pI, aI_pL, aI_pA, aI_pB, aI_pR, aI_pW, aL_pI, aL_pL, aL_pA, aL_pB, aL_pR, aL_pW, gR_pI, gR_pL, gR_pA, gR_pB, gR_pR, gR_pW]
    · simp [gI_pI, gI_pL, gI_pA, gI_pB, gI_pR, gI_pW, gL_pI, gL_pL, gL_pA, gL_pB, gL_pR, gL_pW, aI_pI, aI_pL, aI_pA, aI_pB, aI_pR, aI_pW, aL_pI, aL_pL, aL_pA, aL_pB, aL_pR, aL_pW, gR_pI, gR_pL, gR_pA, gR_pB, gR_pR, gR_pW]
    · simp only [gI_pI, gI_pL, gI_pA, gI_pB, gI_pR, gI_pW, gL_pI, gL_pL, gL_pA, gL_pB, gL_pR, gL_pW, aI_pI, aI_pL, aI_pA, aI_pB, aI_pR, aI_pW, aL_pI, aL_pL, aL_pA, aL_pB, aL_pR, aL_pW, gR_pI, gR_pL, gR_pA, gR_pB, gR_pR, gR_pW, true_and]
      by_cases e : i = nw
      · subst e
        simp only [if_true, l_0]
        exact ⟨trivial, z1 q hq⟩
      · simp only [e, if_false]
        rw [z2 _ (by omega)]
        exact c3 i q (by omega) hq
theorem sim_doubt : ∀ (SX SM : St) (a1 a2 a3 a4 : Int32) (_ : a4 = 0 ∨ a4 = 1), Rel_ SX SM → ∃ (r : Int32) (S1 S2 : St), fX11_doubt SX a1 a2 a3 a4 = some (r, S1) ∧ fX12_doubt SM a1 a2 a3 a4 = some (r, S2) ∧ Rel_ S1 S2 := by
  intro SX SM a1 a2 a3 a4 h4 h
  obtain ⟨hB, hS, hP, hT, hL, hH, hE⟩ := id h
  obtain ⟨w, v, cr, gr, hb, ⟨n, nx, ac, ag, ha⟩, ⟨nw, dc, hn, c1, c2, c3⟩⟩ := hB
  obtain ⟨b4, rfl⟩ : ∃ b, a4 = zb b := by rcases h4 with rfl | rfl; exact ⟨false, rfl⟩; exact ⟨true, rfl⟩
  unfold fX11_doubt fX12_doubt
  rw [hasSq_x hb.2.2.1, isSq_m hb.2.2.2.1 hb.2.2.2.2.1, c1, c2, in_e SM a1 0 (nI nw - 1) (B := 0) rfl rfl, within_e]
  simp only [b1_s, bs_l, bs_r, oI_e, oL_e, oR_e, i10]
  by_cases d : 0 ≤ a1 ∧ a1 ≤ nI nw - 1
  · by_cases c : (0 ≤ a2 ∧ a2 ≤ nI w - 1) ∧ (0 ≤ a3 ∧ a3 ≤ nI v - 1)
    · obtain ⟨⟨w1, w2, v1, v2⟩, hg, hx, hm1, hm2, hm⟩ := id hb
      obtain ⟨i, hi1, rfl⟩ := (in_nat (by omega)).mp d
      obtain ⟨x, hx1, rfl⟩ := (in_nat (by omega)).mp c.1
      obtain ⟨y, hy1, rfl⟩ := (in_nat (by omega)).mp c.2
      obtain ⟨u, e3, hu⟩ := withBit_e SX (v := aL_ SX 36 i) (x := x) (y := y) (b := b4) (by omega) (by omega)
      obtain ⟨g1, g2⟩ := c3 i (8 * y + x) hi1 (by omega)
      have g4 : (if dc i (8 * y + x) = false then some 0 else some 1 : Option Int32) = some (zb (dc i (8 * y + x))) := by cases dc i (8 * y + x) <;> rfl
      simp only [d, c, not_true_eq_false, not_false_eq_true, if_true, if_false, and_self, true_and, and_true, and_false, false_and]
      simp (disch := omega) only [li_le1, li_le2, li_lt1, li_lt2, li_eq1, li_eq2, li_add1, li_add2, li_sub1, li_sub2, li_mul1, li_mul2, li_div2, nI_leI, nI_ltI, nI_eq, nI_add, nI_sub, nI_mul, nI_div, rI_n, rL_n, rR_n, wI_n, wL_n, li_rI, li_rL, li_rR, li_wI, li_wL, b1_s, bs_l, bs_r, oI_e, oL_e, oR_e, wZ_0, wZ_1, wZ_b, if_true, if_false, not_true_eq_false, not_false_eq_true, bit_e SX (show x < 8 by omega) (show y < 8 by omega), e3, Nat.add_assoc, g1, g2, zb_0, g4]
      refine ⟨_, _, _, rfl, rfl, ?_⟩
      have F1 : Fr (fun a b => a == 36) SX (pB_ SX 36 i u) := Fr.pB (by simp) (Fr.refl _ _)
      have F2 : Fr (fun a b => a == 3) SM (pA_ SM 3 (64 * i + (8 * y + x)) (zb b4)) := Fr.pA (by simp) (Fr.refl _ _)
      refine ⟨⟨w, v, cr, gr, hb.fr F1 F2 (fun j => rfl) (fun j => rfl) rfl rfl (fun j => rfl) (fun j => rfl), ⟨n, nx, ac, ag, ha.fr F1 F2 rfl rfl (fun k j z1 z2 => by simp; omega) rfl (fun j => rfl) (fun j => rfl)⟩, ⟨nw, fun i' q => if i' = i ∧ q = 8 * y + x then b4 else dc i' q, by omega, ?_, ?_, fun j q hj hq => ?_⟩⟩, hS.fr F1 F2 (fun k j z => by simp [plX, plM, Nat.ble_eq] at z ⊢; omega) (fun k j z => by simp [plX, plM, Nat.ble_eq] at z ⊢; omega), hP.fr F1 F2 (fun k j z => by simp [plX, plM, Nat.ble_eq] at z ⊢; omega) (fun k j z => by simp [plX, plM, Nat.ble_eq] at z ⊢; omega), hT.fr F1 F2 (fun k j z => by simp [plX, plM, Nat.ble_eq] at z ⊢; omega) (fun k j z => by simp [plX, plM, Nat.ble_eq] at z ⊢; omega), hL.fr F1 F2 (fun k j z => by simp [plX, plM, Nat.ble_eq] at z ⊢; omega) (fun k j z => by simp [plX, plM, Nat.ble_eq] at z ⊢; omega), hH.fr F1 F2 (fun k j z => by simp [plX, plM, Nat.ble_eq] at z ⊢; omega) (fun k j z => by simp [plX, plM, Nat.ble_eq] at z ⊢; omega), by rw [F1.gI (by simp), F2.gI (by simp)]; exact hE⟩
      · simp [gI_pI, gI_pL, gI_pA, gI_pB, gI_pR, gI_pW, gL_pI, gL_pL, gL_pA, gL_pB, gL_pR, gL_pW, aI_pI, aI_pL, aI_pA, aI_pB, aI_pR, aI_pW, aL_pI, aL_pL, aL_pA, aL_pB, aL_pR, aL_pW, gR_pI, gR_pL, gR_pA, gR_pB, gR_pR, gR_pW, c1]
      · simp [gI_pI, gI_pL, gI_pA, gI_pB, gI_pR, gI_pW, gL_pI, gL_pL, gL_pA, gL_pB, gL_pR, gL_pW, aI_pI, aI_pL, aI_pA, aI_pB, aI_pR, aI_pW, aL_pI, aL_pL, aL_pA, aL_pB, aL_pR, aL_pW, gR_pI, gR_pL, gR_pA, gR_pB, gR_pR, gR_pW, c2]
      · simp only [gI_pI, gI_pL, gI_pA, gI_pB, gI_pR, gI_pW, gL_pI, gL_pL, gL_pA, gL_pB, gL_pR, gL_pW, aI_pI, aI_pL, aI_pA, aI_pB, aI_pR, aI_pW, aL_pI, aL_pL, aL_pA, aL_pB, aL_pR, aL_pW, gR_pI, gR_pL, gR_pA, gR_pB, gR_pR, gR_pW, true_and]
        obtain ⟨z1, z2⟩ := c3 j q hj hq
        by_cases e : j = i
        · subst e
          simp only [if_true, true_and]
          rw [hu q hq, z1]
          by_cases e2 : q = 8 * y + x
          · subst e2; simp
          · rw [if_neg e2, if_neg (by omega)]
            exact ⟨rfl, z2⟩
        · simp only [e, if_false, false_and]
          rw [if_neg (by omega)]
          exact ⟨z1, z2⟩
    · exact ⟨-1, SX, SM, by simp only [d, c, not_true_eq_false, not_false_eq_true, if_true, if_false, and_self, true_and, and_true, and_false, false_and], by simp only [d, c, not_true_eq_false, not_false_eq_true, if_true, if_false, and_self, true_and, and_true, and_false, false_and], h⟩
  · exact ⟨-1, SX, SM, by simp only [d, not_true_eq_false, not_false_eq_true, if_true, if_false, and_self, true_and, and_true, and_false, false_and], by simp only [d, not_true_eq_false, not_false_eq_true, if_true, if_false, and_self, true_and, and_true, and_false, false_and], h⟩
/-- f, but x at n -/
def at_ {α : Type} (f : Nat → α) (n : Nat) (x : α) : Nat → α := fun s => if s = n then x else f s
theorem at_s {α : Type} (f : Nat → α) (n : Nat) (x : α) : at_ f n x n = x := if_pos rfl
theorem at_o {α : Type} (f : Nat → α) {n s : Nat} (x : α) (h : s ≠ n) : at_ f n x s = f s := if_neg h
theorem Shp.push {S S' : St} {a b r n w h p l : Nat} {t : Bool} {sw sh pr ls : Nat → Nat} {tn : Nat → Bool} (hs : Shp S a b r n sw sh pr ls tn) (h0 : gI_ S' a b = nI (n + 1))
    (h1 : ∀ s, aI_ S' r s = if s = n then nI w else aI_ S r s) (h2 : ∀ s, aI_ S' (r + 1) s = if s = n then nI h else aI_ S (r + 1) s) (h3 : ∀ s, aI_ S' (r + 2) s = if s = n then nI p else aI_ S (r + 2) s) (h4 : ∀ s, aI_ S' (r + 3) s = if s = n then nI l else aI_ S (r + 3) s) (h5 : ∀ s, aI_ S' (r + 4) s = if s = n then zb t else aI_ S (r + 4) s) :
    Shp S' a b r (n + 1) (at_ sw n w) (at_ sh n h) (at_ pr n p) (at_ ls n l) (at_ tn n t) := by
  refine ⟨h0, fun s hs' => ?_⟩
  rw [h1, h2, h3, h4, h5]
  by_cases e : s = n
  · subst e; simp [at_s]
  · simp only [e, if_false, at_o _ _ e]
    exact hs.2 s (by omega)
theorem sim_shape : ∀ (SX SM : St) (a1 a2 a3 a4 a5 : Int32) (_ : a5 = 0 ∨ a5 = 1), Rel_ SX SM → ∃ (r : Int32) (S1 S2 : St), fX11_shape SX a1 a2 a3 a4 a5 = some (r, S1) ∧ fX12_shape SM a1 a2 a3 a4 a5 = some (r, S2) ∧ Rel_ S1 S2 := by
  intro SX SM a1 a2 a3 a4 a5 h5 h
  obtain ⟨hB, hS, hP, hT, hL, hH, hE⟩ := id h
  obtain ⟨ns, sw, sh, pr, ls, tn, ⟨⟨hn, sb⟩, sx, sm⟩, ⟨nk, kw, kh, kg, ka, kb, kx, km⟩, ⟨no, os, oa, op, ⟨ob1, ob2⟩, ox, om⟩⟩ := hS
  obtain ⟨b5, rfl⟩ : ∃ b, a5 = zb b := by rcases h5 with rfl | rfl; exact ⟨false, rfl⟩; exact ⟨true, rfl⟩
  unfold fX11_shape fX12_shape
  simp only [within_e, (in_e SM a1 1 8 (B := 1) (C := 8) rfl rfl), (in_e SM a2 1 8 (B := 1) (C := 8) rfl rfl), (in_e SM a3 1 500 (B := 1) (C := 500) rfl rfl), (in_e SM a4 0 9 (B := 0) (C := 9) rfl rfl), b1_s, bs_l, bs_r, oI_e, oL_e, oR_e, i10]
  by_cases c1 : 1 ≤ a1 ∧ a1 ≤ 8
  · by_cases c2 : 1 ≤ a2 ∧ a2 ≤ 8
    · by_cases c3 : 1 ≤ a3 ∧ a3 ≤ 500
      · by_cases c4 : 0 ≤ a4 ∧ a4 ≤ 9
        · simp only [c1, c2, c3, c4, not_true_eq_false, not_false_eq_true, if_true, if_false, and_self, true_and, and_true, and_false, false_and]
          rw [sx.1, sm.1]
          by_cases c : ns = 8
          · have c' : ¬ ns < 8 := by omega
            simp (disch := omega) only [li_le1, li_le2, li_lt1, li_lt2, li_eq1, li_eq2, li_add1, li_add2, li_sub1, li_sub2, li_mul1, li_mul2, li_div2, nI_leI, nI_ltI, nI_eq, nI_add, nI_sub, nI_mul, nI_div, rI_n, rL_n, rR_n, wI_n, wL_n, li_rI, li_rL, li_rR, li_wI, li_wL, b1_s, bs_l, bs_r, oI_e, oL_e, oR_e, wZ_0, wZ_1, wZ_b, if_true, if_false, not_true_eq_false, not_false_eq_true, c, c', Nat.lt_irrefl]
            exact ⟨-3, SX, SM, rfl, rfl, h⟩
          · have c' : ns < 8 := by omega
            obtain ⟨x1, p1, q1, rfl⟩ := in_rng (a := 1) (b := 8) (by omega) c1 (by omega)
            obtain ⟨x2, p2, q2, rfl⟩ := in_rng (a := 1) (b := 8) (by omega) c2 (by omega)
            obtain ⟨x3, p3, q3, rfl⟩ := in_rng (a := 1) (b := 500) (by omega) c3 (by omega)
            obtain ⟨x4, p4, q4, rfl⟩ := in_rng (a := 0) (b := 9) (by omega) c4 (by omega)
            unfold fX7_add
            simp (disch := omega) only [li_le1, li_le2, li_lt1, li_lt2, li_eq1, li_eq2, li_add1, li_add2, li_sub1, li_sub2, li_mul1, li_mul2, li_div2, nI_leI, nI_ltI, nI_eq, nI_add, nI_sub, nI_mul, nI_div, rI_n, rL_n, rR_n, wI_n, wL_n, li_rI, li_rL, li_rR, li_wI, li_wL, b1_s, bs_l, bs_r, oI_e, oL_e, oR_e, wZ_0, wZ_1, wZ_b, if_true, if_false, not_true_eq_false, not_false_eq_true, c, c', gI_pI, gI_pL, gI_pA, gI_pB, gI_pR, gI_pW, gL_pI, gL_pL, gL_pA, gL_pB, gL_pR, gL_pW, aI_pI, aI_pL, aI_pA, aI_pB, aI_pR, aI_pW, aL_pI, aL_pL, aL_pA, aL_pB, aL_pR, aL_pW, gR_pI, gR_pL, gR_pA, gR_pB, gR_pR, gR_pW, sx.1, sm.1, and_self, Nat.add_sub_cancel, Nat.reduceEqDiff, false_and]
            refine ⟨_, _, _, rfl, rfl, ?_⟩
            have F1 : Fr (fun a b => (a == 21 && b == 5) || (decide (22 ≤ a) && decide (a ≤ 26))) SX (pI_ (pA_ (pA_ (pA_ (pA_ (pA_ SX 22 ns (nI x1)) 23 ns (nI x2)) 24 ns (nI x3)) 25 ns (nI x4)) 26 ns (zb b5)) 21 5 (nI (ns + 1))) := Fr.pI (by simp) (Fr.pA (by simp) (Fr.pA (by simp) (Fr.pA (by simp) (Fr.pA (by simp) (Fr.pA (by simp) (Fr.refl _ _))))))
            have F2 : Fr (fun a b => (a == 0 && b == 9) || (decide (6 ≤ a) && decide (a ≤ 10))) SM (pI_ (pA_ (pA_ (pA_ (pA_ (pA_ SM 6 ns (nI x1)) 7 ns (nI x2)) 8 ns (nI x3)) 9 ns (nI x4)) 10 ns (zb b5)) 0 9 (nI (ns + 1))) := Fr.pI (by simp) (Fr.pA (by simp) (Fr.pA (by simp) (Fr.pA (by simp) (Fr.pA (by simp) (Fr.pA (by simp) (Fr.refl _ _))))))
            refine ⟨hB.fr F1 F2 (fun k j z => by simp [plX, plM, Nat.ble_eq] at z ⊢; omega) (fun k j z => by simp [plX, plM, Nat.ble_eq] at z ⊢; omega), ⟨ns + 1, at_ sw ns x1, at_ sh ns x2, at_ pr ns x3, at_ ls ns x4, at_ tn ns b5, ⟨⟨by omega, fun s hs => ?_⟩, sx.push ?_ ?_ ?_ ?_ ?_ ?_, sm.push ?_ ?_ ?_ ?_ ?_ ?_⟩, ⟨nk, kw, kh, kg, ka, kb, kx.fr F1 rfl (fun k j z1 z2 => by simp; omega), km.fr F2 rfl (fun k j z1 z2 => by simp; omega)⟩, ⟨no, os, oa, op, ⟨ob1, fun s hs => ⟨by have := (ob2 s hs).1; omega, (ob2 s hs).2⟩⟩, ox.fr F1 rfl (fun k j z1 z2 => by simp; omega), om.fr F2 rfl (fun k j z1 z2 => by simp; omega)⟩⟩, hP.fr F1 F2 (fun k j z => by simp [plX, plM, Nat.ble_eq] at z ⊢; omega) (fun k j z => by simp [plX, plM, Nat.ble_eq] at z ⊢; omega), hT.fr F1 F2 (fun k j z => by simp [plX, plM, Nat.ble_eq] at z ⊢; omega) (fun k j z => by simp [plX, plM, Nat.ble_eq] at z ⊢; omega), hL.fr F1 F2 (fun k j z => by simp [plX, plM, Nat.ble_eq] at z ⊢; omega) (fun k j z => by simp [plX, plM, Nat.ble_eq] at z ⊢; omega), hH.fr F1 F2 (fun k j z => by simp [plX, plM, Nat.ble_eq] at z ⊢; omega) (fun k j z => by simp [plX, plM, Nat.ble_eq] at z ⊢; omega), by rw [F1.gI (by simp), F2.gI (by simp)]; exact hE⟩
            · by_cases e : s = ns
              · subst e; simp only [at_s]; omega
              · simp only [at_o _ _ e]; exact sb s (by omega)
            all_goals first | (intro s; simp [gI_pI, gI_pL, gI_pA, gI_pB, gI_pR, gI_pW, gL_pI, gL_pL, gL_pA, gL_pB, gL_pR, gL_pW, aI_pI, aI_pL, aI_pA, aI_pB, aI_pR, aI_pW, aL_pI, aL_pL, aL_pA, aL_pB, aL_pR, aL_pW, gR_pI, gR_pL, gR_pA, gR_pB, gR_pR, gR_pW]) | simp [gI_pI, gI_pL, gI_pA, gI_pB, gI_pR, gI_pW, gL_pI, gL_pL, gL_pA, gL_pB, gL_pR, gL_pW, aI_pI, aI_pL, aI_pA, aI_pB, aI_pR, aI_pW, aL_pI, aL_pL, aL_pA, aL_pB, aL_pR, aL_pW, gR_pI, gR_pL, gR_pA, gR_pB, gR_pR, gR_pW]
        · exact ⟨-1, SX, SM, by simp only [c1, c2, c3, c4, not_true_eq_false, not_false_eq_true, if_true, if_false, and_self, true_and, and_true, and_false, false_and], by simp only [c1, c2, c3, c4, not_true_eq_false, not_false_eq_true, if_true, if_false, and_self, true_and, and_true, and_false, false_and], h⟩
      · exact ⟨-1, SX, SM, by simp only [c1, c2, c3, not_true_eq_false, not_false_eq_true, if_true, if_false, and_self, true_and, and_true, and_false, false_and], by simp only [c1, c2, c3, not_true_eq_false, not_false_eq_true, if_true, if_false, and_self, true_and, and_true, and_false, false_and], h⟩
    · exact ⟨-1, SX, SM, by simp only [c1, c2, not_true_eq_false, not_false_eq_true, if_true, if_false, and_self, true_and, and_true, and_false, false_and], by simp only [c1, c2, not_true_eq_false, not_false_eq_true, if_true, if_false, and_self, true_and, and_true, and_false, false_and], h⟩
  · exact ⟨-1, SX, SM, by simp only [c1, not_true_eq_false, not_false_eq_true, if_true, if_false, and_self, true_and, and_true, and_false, false_and], by simp only [c1, not_true_eq_false, not_false_eq_true, if_true, if_false, and_self, true_and, and_true, and_false, false_and], h⟩
