/-! drop, store, stored, age, order -/
theorem want_x {S : St} {ns n t : Nat} {os oa op : Nat → Nat} (ho : Odr S 42 5 43 n os oa op) (hb : OdB ns n os oa op) (hns : ns ≤ 8) (ht : t < 2 ^ 31) : fX4_want S (nI t) = some (if ∃ o, o < n ∧ os o = t then 1 else 0) := by
  unfold fX4_want
  have hn : n ≤ 8 := hb.1
  obtain ⟨r, e, hr⟩ := lp_inv (body := fun w21 : Int32 => bX4_want_2 S (nI t) w21) (fun i s => s = nI i ∧ ∀ o, o < i → os o ≠ t) (fun r => (r = .inl () ∧ ∀ o, o < n → os o ≠ t) ∨ (r = .inr 1 ∧ ∃ o, o < n ∧ os o = t)) n (m := 5000) (s := 0) (by omega) ⟨rfl, fun o hh => absurd hh (by omega)⟩
    (fun i s hi ⟨h1, h2⟩ => by
      have hn' : ¬ n ≤ i := by omega
      have g := (ho.2 i hi).1
      have b := (hb.2 i hi).1
      subst h1
      unfold bX4_want_2
      rw [ho.1]
      simp (disch := omega) only [li_le1, li_le2, li_lt1, li_lt2, li_eq1, li_eq2, li_add1, li_add2, li_sub1, li_sub2, li_mul1, li_mul2, li_div2, nI_leI, nI_ltI, nI_eq, nI_add, nI_sub, nI_mul, nI_div, rI_n, rL_n, rR_n, wI_n, wL_n, li_rI, li_rL, li_rR, li_wI, li_wL, b1_s, bs_l, bs_r, oI_e, oL_e, oR_e, wZ_0, wZ_1, wZ_b, if_true, if_false, not_true_eq_false, not_false_eq_true, hn', g]
      by_cases z : os i = t
      · exact Or.inr ⟨.inr 1, by rw [if_pos z], Or.inr ⟨rfl, i, hi, z⟩⟩
      · exact Or.inl ⟨_, by rw [if_neg z], rfl, fun o hh => by
          by_cases e : o = i
          · rw [e]; exact z
          · exact h2 o (by omega)⟩)
    (fun s ⟨h1, h2⟩ => ⟨.inl (), by
      subst h1
      unfold bX4_want_2
      rw [ho.1]
      simp (disch := omega) only [li_le1, li_le2, li_lt1, li_lt2, li_eq1, li_eq2, li_add1, li_add2, li_sub1, li_sub2, li_mul1, li_mul2, li_div2, nI_leI, nI_ltI, nI_eq, nI_add, nI_sub, nI_mul, nI_div, rI_n, rL_n, rR_n, wI_n, wL_n, li_rI, li_rL, li_rR, li_wI, li_wL, b1_s, bs_l, bs_r, oI_e, oL_e, oR_e, wZ_0, wZ_1, wZ_b, if_true, if_false, not_true_eq_false, not_false_eq_true, Nat.le_refl], Or.inl ⟨rfl, h2⟩⟩)
  rw [e]
  rcases hr with ⟨rfl, z⟩ | ⟨rfl, z⟩
  · rw [if_neg (fun ⟨o, z1, z2⟩ => z o z1 z2)]; rfl
  · rw [if_pos z]; rfl
theorem drop_m {S : St} {ns n : Nat} {os oa op : Nat → Nat} (ho : Odr S 0 22 17 n os oa op) (hb : OdB ns n os oa op) (hns : ns ≤ 8) (h1 : 1 ≤ ns) (h9 : gI_ S 0 9 = nI ns) : lp (fun w21 : Int32 => bX12_drop_12 S w21) 5000 0 = some (if ∃ o, o < n ∧ os o = ns - 1 then .inr (-2, S) else .inl ()) := by
  have hn : n ≤ 8 := hb.1
  obtain ⟨r, e, hr⟩ := lp_inv (body := fun w21 : Int32 => bX12_drop_12 S w21) (fun i s => s = nI i ∧ ∀ o, o < i → os o ≠ ns - 1) (fun r => (r = .inl () ∧ ∀ o, o < n → os o ≠ ns - 1) ∨ (r = .inr (-2, S) ∧ ∃ o, o < n ∧ os o = ns - 1)) n (m := 5000) (s := 0) (by omega) ⟨rfl, fun o hh => absurd hh (by omega)⟩
    (fun i s hi ⟨h1, h2⟩ => by
      have hn' : ¬ n ≤ i := by omega
      have g := (ho.2 i hi).1
      have b := (hb.2 i hi).1
      subst h1
      unfold bX12_drop_12
      rw [ho.1, h9]
      simp (disch := omega) only [li_le1, li_le2, li_lt1, li_lt2, li_eq1, li_eq2, li_add1, li_add2, li_sub1, li_sub2, li_mul1, li_mul2, li_div2, nI_leI, nI_ltI, nI_eq, nI_add, nI_sub, nI_mul, nI_div, rI_n, rL_n, rR_n, wI_n, wL_n, li_rI, li_rL, li_rR, li_wI, li_wL, b1_s, bs_l, bs_r, oI_e, oL_e, oR_e, wZ_0, wZ_1, wZ_b, if_true, if_false, not_true_eq_false, not_false_eq_true, hn', g]
      by_cases z : os i = ns - 1
      · exact Or.inr ⟨.inr (-2, S), by rw [if_pos z], Or.inr ⟨rfl, i, hi, z⟩⟩
      · exact Or.inl ⟨_, by rw [if_neg z], rfl, fun o hh => by
          by_cases e : o = i
          · rw [e]; exact z
          · exact h2 o (by omega)⟩)
    (fun s ⟨h1, h2⟩ => ⟨.inl (), by
      subst h1
      unfold bX12_drop_12
      rw [ho.1]
      simp (disch := omega) only [li_le1, li_le2, li_lt1, li_lt2, li_eq1, li_eq2, li_add1, li_add2, li_sub1, li_sub2, li_mul1, li_mul2, li_div2, nI_leI, nI_ltI, nI_eq, nI_add, nI_sub, nI_mul, nI_div, rI_n, rL_n, rR_n, wI_n, wL_n, li_rI, li_rL, li_rR, li_wI, li_wL, b1_s, bs_l, bs_r, oI_e, oL_e, oR_e, wZ_0, wZ_1, wZ_b, if_true, if_false, not_true_eq_false, not_false_eq_true, Nat.le_refl], Or.inl ⟨rfl, h2⟩⟩)
  rw [e]
  rcases hr with ⟨rfl, z⟩ | ⟨rfl, z⟩
  · rw [if_neg (fun ⟨o, z1, z2⟩ => z o z1 z2)]
  · rw [if_pos z]
theorem sim_drop : ∀ (SX SM : St), Rel_ SX SM → ∃ (r : Int32) (S1 S2 : St), fX11_drop SX = some (r, S1) ∧ fX12_drop SM = some (r, S2) ∧ Rel_ S1 S2 := by
  intro SX SM h
  obtain ⟨hB, hS, hP, hT, hL, hH, hE⟩ := id h
  obtain ⟨ns, sw, sh, pr, ls, tn, ⟨⟨hn, sb⟩, sx, sm⟩, ⟨nk, kw, kh, kg, ka, kb, kx, km⟩, ⟨no, os, oa, op, ob, ox, om⟩⟩ := hS
  unfold fX11_drop fX12_drop
  rw [sx.1, sm.1]
  by_cases c : ns = 0
  · simp (disch := omega) only [li_le1, li_le2, li_lt1, li_lt2, li_eq1, li_eq2, li_add1, li_add2, li_sub1, li_sub2, li_mul1, li_mul2, li_div2, nI_leI, nI_ltI, nI_eq, nI_add, nI_sub, nI_mul, nI_div, rI_n, rL_n, rR_n, wI_n, wL_n, li_rI, li_rL, li_rR, li_wI, li_wL, b1_s, bs_l, bs_r, oI_e, oL_e, oR_e, wZ_0, wZ_1, wZ_b, if_true, if_false, not_true_eq_false, not_false_eq_true, c]
    exact ⟨-4, SX, SM, rfl, rfl, h⟩
  · have e0 : nI ns - 1 = nI (ns - 1) := nI_sub (b := 1) (by omega)
    have e := want_x ox ob hn (t := ns - 1) (by omega)
    rw [e0, e, drop_m om ob hn (by omega) sm.1]
    by_cases d : ∃ o, o < no ∧ os o = ns - 1
    · simp (disch := omega) only [li_le1, li_le2, li_lt1, li_lt2, li_eq1, li_eq2, li_add1, li_add2, li_sub1, li_sub2, li_mul1, li_mul2, li_div2, nI_leI, nI_ltI, nI_eq, nI_add, nI_sub, nI_mul, nI_div, rI_n, rL_n, rR_n, wI_n, wL_n, li_rI, li_rL, li_rR, li_wI, li_wL, b1_s, bs_l, bs_r, oI_e, oL_e, oR_e, wZ_0, wZ_1, wZ_b, if_true, if_false, not_true_eq_false, not_false_eq_true, c, d]
      exact ⟨-2, SX, SM, rfl, rfl, h⟩
    · simp (disch := omega) only [li_le1, li_le2, li_lt1, li_lt2, li_eq1, li_eq2, li_add1, li_add2, li_sub1, li_sub2, li_mul1, li_mul2, li_div2, nI_leI, nI_ltI, nI_eq, nI_add, nI_sub, nI_mul, nI_div, rI_n, rL_n, rR_n, wI_n, wL_n, li_rI, li_rL, li_rR, li_wI, li_wL, b1_s, bs_l, bs_r, oI_e, oL_e, oR_e, wZ_0, wZ_1, wZ_b, if_true, if_false, not_true_eq_false, not_false_eq_true, c, d, gI_pI, gI_pL, gI_pA, gI_pB, gI_pR, gI_pW, gL_pI, gL_pL, gL_pA, gL_pB, gL_pR, gL_pW, aI_pI, aI_pL, aI_pA, aI_pB, aI_pR, aI_pW, aL_pI, aL_pL, aL_pA, aL_pB, aL_pR, aL_pW, gR_pI, gR_pL, gR_pA, gR_pB, gR_pR, gR_pW, and_self]
      refine ⟨_, _, _, rfl, rfl, ?_⟩
      have F1 : Fr (fun a b => (a == 21 && b == 5)) SX (pI_ SX 21 5 (nI (ns - 1))) := Fr.pI (by simp) (Fr.refl _ _)
      have F2 : Fr (fun a b => (a == 0 && b == 9)) SM (pI_ SM 0 9 (nI (ns - 1))) := Fr.pI (by simp) (Fr.refl _ _)
      refine ⟨hB.fr F1 F2 (fun k j z => by simp [plX, plM, Nat.ble_eq] at z ⊢; omega) (fun k j z => by simp [plX, plM, Nat.ble_eq] at z ⊢; omega), ⟨ns - 1, sw, sh, pr, ls, tn, ⟨⟨by omega, fun s hs => sb s (by omega)⟩, ⟨by simp [gI_pI, gI_pL, gI_pA, gI_pB, gI_pR, gI_pW, gL_pI, gL_pL, gL_pA, gL_pB, gL_pR, gL_pW, aI_pI, aI_pL, aI_pA, aI_pB, aI_pR, aI_pW, aL_pI, aL_pL, aL_pA, aL_pB, aL_pR, aL_pW, gR_pI, gR_pL, gR_pA, gR_pB, gR_pR, gR_pW], fun s hs => ?_⟩, ⟨by simp [gI_pI, gI_pL, gI_pA, gI_pB, gI_pR, gI_pW, gL_pI, gL_pL, gL_pA, gL_pB, gL_pR, gL_pW, aI_pI, aI_pL, aI_pA, aI_pB, aI_pR, aI_pW, aL_pI, aL_pL, aL_pA, aL_pB, aL_pR, aL_pW, gR_pI, gR_pL, gR_pA, gR_pB, gR_pR, gR_pW], fun s hs => ?_⟩⟩, ⟨nk, kw, kh, kg, ka, kb, kx.fr F1 rfl (fun k j z1 z2 => by simp; omega), km.fr F2 rfl (fun k j z1 z2 => by simp; omega)⟩, ⟨no, os, oa, op, ⟨ob.1, fun s hs => ⟨by
        have z1 := (ob.2 s hs).1
        have z2 : os s ≠ ns - 1 := fun q => d ⟨s, hs, q⟩
        omega, (ob.2 s hs).2⟩⟩, ox.fr F1 rfl (fun k j z1 z2 => by simp; omega), om.fr F2 rfl (fun k j z1 z2 => by simp; omega)⟩⟩, hP.fr F1 F2 (fun k j z => by simp [plX, plM, Nat.ble_eq] at z ⊢; omega) (fun k j z => by simp [plX, plM, Nat.ble_eq] at z ⊢; omega), hT.fr F1 F2 (fun k j z => by simp [plX, plM, Nat.ble_eq] at z ⊢; omega) (fun k j z => by simp [plX, plM, Nat.ble_eq] at z ⊢; omega), hL.fr F1 F2 (fun k j z => by simp [plX, plM, Nat.ble_eq] at z ⊢; omega) (fun k j z => by simp [plX, plM, Nat.ble_eq] at z ⊢; omega), hH.fr F1 F2 (fun k j z => by simp [plX, plM, Nat.ble_eq] at z ⊢; omega) (fun k j z => by simp [plX, plM, Nat.ble_eq] at z ⊢; omega), by rw [F1.gI (by simp), F2.gI (by simp)]; exact hE⟩
      · simp only [gI_pI, gI_pL, gI_pA, gI_pB, gI_pR, gI_pW, gL_pI, gL_pL, gL_pA, gL_pB, gL_pR, gL_pW, aI_pI, aI_pL, aI_pA, aI_pB, aI_pR, aI_pW, aL_pI, aL_pL, aL_pA, aL_pB, aL_pR, aL_pW, gR_pI, gR_pL, gR_pA, gR_pB, gR_pR, gR_pW]; exact sx.2 s (by omega)
      · simp only [gI_pI, gI_pL, gI_pA, gI_pB, gI_pR, gI_pW, gL_pI, gL_pL, gL_pA, gL_pB, gL_pR, gL_pW, aI_pI, aI_pL, aI_pA, aI_pB, aI_pR, aI_pW, aL_pI, aL_pL, aL_pA, aL_pB, aL_pR, aL_pW, gR_pI, gR_pL, gR_pA, gR_pB, gR_pR, gR_pW]; exact sm.2 s (by omega)
theorem Stk.push {S S' : St} {a b r n w h p l : Nat} {sw sh pr ls : Nat → Nat} (hs : Stk S a b r n sw sh pr ls) (h0 : gI_ S' a b = nI (n + 1))
    (h1 : ∀ s, aI_ S' r s = if s = n then nI w else aI_ S r s) (h2 : ∀ s, aI_ S' (r + 1) s = if s = n then nI h else aI_ S (r + 1) s) (h3 : ∀ s, aI_ S' (r + 2) s = if s = n then nI p else aI_ S (r + 2) s) (h4 : ∀ s, aI_ S' (r + 3) s = if s = n then nI l else aI_ S (r + 3) s) :
    Stk S' a b r (n + 1) (at_ sw n w) (at_ sh n h) (at_ pr n p) (at_ ls n l) := by
  refine ⟨h0, fun s hs' => ?_⟩
  rw [h1, h2, h3, h4]
  by_cases e : s = n
  · subst e; simp [at_s]
  · simp only [e, if_false, at_o _ _ e]
    exact hs.2 s (by omega)
theorem Odr.push {S S' : St} {a b r n w h p : Nat} {sw sh pr : Nat → Nat} (hs : Odr S a b r n sw sh pr) (h0 : gI_ S' a b = nI (n + 1))
    (h1 : ∀ s, aI_ S' r s = if s = n then nI w else aI_ S r s) (h2 : ∀ s, aI_ S' (r + 1) s = if s = n then nI h else aI_ S (r + 1) s) (h3 : ∀ s, aI_ S' (r + 2) s = if s = n then nI p else aI_ S (r + 2) s) :
    Odr S' a b r (n + 1) (at_ sw n w) (at_ sh n h) (at_ pr n p) := by
  refine ⟨h0, fun s hs' => ?_⟩
  rw [h1, h2, h3]
  by_cases e : s = n
  · subst e; simp [at_s]
  · simp only [e, if_false, at_o _ _ e]
    exact hs.2 s (by omega)
theorem sim_store : ∀ (SX SM : St) (a1 a2 a3 a4 : Int32), Rel_ SX SM → ∃ (r : Int32) (S1 S2 : St), fX11_store SX a1 a2 a3 a4 = some (r, S1) ∧ fX12_store SM a1 a2 a3 a4 = some (r, S2) ∧ Rel_ S1 S2 := by
  intro SX SM a1 a2 a3 a4 h
  obtain ⟨hB, hS, hP, hT, hL, hH, hE⟩ := id h
  obtain ⟨ns, sw, sh, pr, ls, tn, ⟨sb, sx, sm⟩, ⟨nk, kw, kh, kg, ka, ⟨hn, kb⟩, kx, km⟩, ⟨no, os, oa, op, ob, ox, om⟩⟩ := hS
  unfold fX11_store fX12_store
  simp only [within_e, (in_e SM a1 1 8 (B := 1) (C := 8) rfl rfl), (in_e SM a2 1 8 (B := 1) (C := 8) rfl rfl), (in_e SM a3 0 9 (B := 0) (C := 9) rfl rfl), (in_e SM a4 0 99 (B := 0) (C := 99) rfl rfl), b1_s, bs_l, bs_r, oI_e, oL_e, oR_e, i10]
  by_cases c1 : 1 ≤ a1 ∧ a1 ≤ 8
  · by_cases c2 : 1 ≤ a2 ∧ a2 ≤ 8
    · by_cases c3 : 0 ≤ a3 ∧ a3 ≤ 9
      · by_cases c4 : 0 ≤ a4 ∧ a4 ≤ 99
        · simp only [c1, c2, c3, c4, not_true_eq_false, not_false_eq_true, if_true, if_false, and_self, true_and, and_true, and_false, false_and]
          rw [kx.1, km.1]
          by_cases c : nk = 12
          · simp (disch := omega) only [li_le1, li_le2, li_lt1, li_lt2, li_eq1, li_eq2, li_add1, li_add2, li_sub1, li_sub2, li_mul1, li_mul2, li_div2, nI_leI, nI_ltI, nI_eq, nI_add, nI_sub, nI_mul, nI_div, rI_n, rL_n, rR_n, wI_n, wL_n, li_rI, li_rL, li_rR, li_wI, li_wL, b1_s, bs_l, bs_r, oI_e, oL_e, oR_e, wZ_0, wZ_1, wZ_b, if_true, if_false, not_true_eq_false, not_false_eq_true, c, Nat.lt_irrefl]
            exact ⟨-3, SX, SM, rfl, rfl, h⟩
          · have c' : nk < 12 := by omega
            obtain ⟨x1, p1, q1, rfl⟩ := in_rng (a := 1) (b := 8) (by omega) c1 (by omega)
            obtain ⟨x2, p2, q2, rfl⟩ := in_rng (a := 1) (b := 8) (by omega) c2 (by omega)
            obtain ⟨x3, p3, q3, rfl⟩ := in_rng (a := 0) (b := 9) (by omega) c3 (by omega)
            obtain ⟨x4, p4, q4, rfl⟩ := in_rng (a := 0) (b := 99) (by omega) c4 (by omega)
            unfold fX9_add
            simp (disch := omega) only [li_le1, li_le2, li_lt1, li_lt2, li_eq1, li_eq2, li_add1, li_add2, li_sub1, li_sub2, li_mul1, li_mul2, li_div2, nI_leI, nI_ltI, nI_eq, nI_add, nI_sub, nI_mul, nI_div, rI_n, rL_n, rR_n, wI_n, wL_n, li_rI, li_rL, li_rR, li_wI, li_wL, b1_s, bs_l, bs_r, oI_e, oL_e, oR_e, wZ_0, wZ_1, wZ_b, if_true, if_false, not_true_eq_false, not_false_eq_true, c, c', gI_pI, gI_pL, gI_pA, gI_pB, gI_pR, gI_pW, gL_pI, gL_pL, gL_pA, gL_pB, gL_pR, gL_pW, aI_pI, aI_pL, aI_pA, aI_pB, aI_pR, aI_pW, aL_pI, aL_pL, aL_pA, aL_pB, aL_pR, aL_pW, gR_pI, gR_pL, gR_pA, gR_pB, gR_pR, gR_pW, kx.1, km.1, and_self, Nat.add_sub_cancel, Nat.reduceEqDiff, false_and]
            refine ⟨_, _, _, rfl, rfl, ?_⟩
            have F1 : Fr (fun a b => (a == 37 && b == 4) || (decide (38 ≤ a) && decide (a ≤ 41))) SX (pI_ (pA_ (pA_ (pA_ (pA_ SX 38 nk (nI x1)) 39 nk (nI x2)) 40 nk (nI x3)) 41 nk (nI x4)) 37 4 (nI (nk + 1))) := Fr.pI (by simp) (Fr.pA (by simp) (Fr.pA (by simp) (Fr.pA (by simp) (Fr.pA (by simp) (Fr.refl _ _)))))
            have F2 : Fr (fun a b => (a == 0 && b == 17) || (decide (13 ≤ a) && decide (a ≤ 16))) SM (pI_ (pA_ (pA_ (pA_ (pA_ SM 13 nk (nI x1)) 14 nk (nI x2)) 15 nk (nI x3)) 16 nk (nI x4)) 0 17 (nI (nk + 1))) := Fr.pI (by simp) (Fr.pA (by simp) (Fr.pA (by simp) (Fr.pA (by simp) (Fr.pA (by simp) (Fr.refl _ _)))))
            refine ⟨hB.fr F1 F2 (fun k j z => by simp [plX, plM, Nat.ble_eq] at z ⊢; omega) (fun k j z => by simp [plX, plM, Nat.ble_eq] at z ⊢; omega), ⟨ns, sw, sh, pr, ls, tn, ⟨sb, sx.fr F1 rfl (fun k j z1 z2 => by simp; omega), sm.fr F2 rfl (fun k j z1 z2 => by simp; omega)⟩, ⟨nk + 1, at_ kw nk x1, at_ kh nk x2, at_ kg nk x3, at_ ka nk x4, ⟨by omega, fun s hs => ?_⟩, kx.push ?_ ?_ ?_ ?_ ?_, km.push ?_ ?_ ?_ ?_ ?_⟩, ⟨no, os, oa, op, ob, ox.fr F1 rfl (fun k j z1 z2 => by simp; omega), om.fr F2 rfl (fun k j z1 z2 => by simp; omega)⟩⟩, hP.fr F1 F2 (fun k j z => by simp [plX, plM, Nat.ble_eq] at z ⊢; omega) (fun k j z => by simp [plX, plM, Nat.ble_eq] at z ⊢; omega), hT.fr F1 F2 (fun k j z => by simp [plX, plM, Nat.ble_eq] at z ⊢; omega) (fun k j z => by simp [plX, plM, Nat.ble_eq] at z ⊢; omega), hL.fr F1 F2 (fun k j z => by simp [plX, plM, Nat.ble_eq] at z ⊢; omega) (fun k j z => by simp [plX, plM, Nat.ble_eq] at z ⊢; omega), hH.fr F1 F2 (fun k j z => by simp [plX, plM, Nat.ble_eq] at z ⊢; omega) (fun k j z => by simp [plX, plM, Nat.ble_eq] at z ⊢; omega), by rw [F1.gI (by simp), F2.gI (by simp)]; exact hE⟩
            · by_cases e : s = nk
              · subst e; simp only [at_s]; omega
              · simp only [at_o _ _ e]; exact kb s (by omega)
            all_goals first | (intro s; simp [gI_pI, gI_pL, gI_pA, gI_pB, gI_pR, gI_pW, gL_pI, gL_pL, gL_pA, gL_pB, gL_pR, gL_pW, aI_pI, aI_pL, aI_pA, aI_pB, aI_pR, aI_pW, aL_pI, aL_pL, aL_pA, aL_pB, aL_pR, aL_pW, gR_pI, gR_pL, gR_pA, gR_pB, gR_pR, gR_pW]) | simp [gI_pI, gI_pL, gI_pA, gI_pB, gI_pR, gI_pW, gL_pI, gL_pL, gL_pA, gL_pB, gL_pR, gL_pW, aI_pI, aI_pL, aI_pA, aI_pB, aI_pR, aI_pW, aL_pI, aL_pL, aL_pA, aL_pB, aL_pR, aL_pW, gR_pI, gR_pL, gR_pA, gR_pB, gR_pR, gR_pW]
        · exact ⟨-1, SX, SM, by simp only [c1, c2, c3, c4, not_true_eq_false, not_false_eq_true, if_true, if_false, and_self, true_and, and_true, and_false, false_and], by simp only [c1, c2, c3, c4, not_true_eq_false, not_false_eq_true, if_true, if_false, and_self, true_and, and_true, and_false, false_and], h⟩
      · exact ⟨-1, SX, SM, by simp only [c1, c2, c3, not_true_eq_false, not_false_eq_true, if_true, if_false, and_self, true_and, and_true, and_false, false_and], by simp only [c1, c2, c3, not_true_eq_false, not_false_eq_true, if_true, if_false, and_self, true_and, and_true, and_false, false_and], h⟩
    · exact ⟨-1, SX, SM, by simp only [c1, c2, not_true_eq_false, not_false_eq_true, if_true, if_false, and_self, true_and, and_true, and_false, false_and], by simp only [c1, c2, not_true_eq_false, not_false_eq_true, if_true, if_false, and_self, true_and, and_true, and_false, false_and], h⟩
  · exact ⟨-1, SX, SM, by simp only [c1, not_true_eq_false, not_false_eq_true, if_true, if_false, and_self, true_and, and_true, and_false, false_and], by simp only [c1, not_true_eq_false, not_false_eq_true, if_true, if_false, and_self, true_and, and_true, and_false, false_and], h⟩
theorem has_x {S : St} {n : Nat} (h1 : gI_ S 21 5 = nI n) (a : Int32) : fX7_has S a = some (if 0 ≤ a ∧ a ≤ nI n - 1 then 1 else 0) := by
  unfold fX7_has
  rw [within_e, h1]
  simp only [b1_s, bs_l, bs_r, oI_e, oL_e, oR_e, bz_i]
theorem isShape_m {S : St} {n : Nat} (h1 : gI_ S 0 9 = nI n) (a : Int32) : fX12_isShape S a = some (if 0 ≤ a ∧ a ≤ nI n - 1 then 1 else 0) := by
  unfold fX12_isShape
  rw [h1, in_e S a 0 (nI n - 1) (B := 0) rfl rfl]
  simp only [b1_s, bs_l, bs_r, oI_e, oL_e, oR_e, bz_i]
theorem sim_order : ∀ (SX SM : St) (a1 a2 a3 : Int32), Rel_ SX SM → ∃ (r : Int32) (S1 S2 : St), fX11_order SX a1 a2 a3 = some (r, S1) ∧ fX12_order SM a1 a2 a3 = some (r, S2) ∧ Rel_ S1 S2 := by
  intro SX SM a1 a2 a3 h
  obtain ⟨hB, hS, hP, hT, hL, hH, hE⟩ := id h
  obtain ⟨ns, sw, sh, pr, ls, tn, ⟨sb, sx, sm⟩, ⟨nk, kw, kh, kg, ka, kb, kx, km⟩, ⟨no, os, oa, op, ⟨hn, ob⟩, ox, om⟩⟩ := hS
  have hns := sb.1
  unfold fX11_order fX12_order
  rw [has_x sx.1, isShape_m sm.1]
  simp only [within_e, (in_e SM a2 0 99 (B := 0) (C := 99) rfl rfl), (in_e SM a3 1 1000 (B := 1) (C := 1000) rfl rfl), b1_s, bs_l, bs_r, oI_e, oL_e, oR_e, i10]
  by_cases c1 : 0 ≤ a1 ∧ a1 ≤ nI ns - 1
  · by_cases c2 : 0 ≤ a2 ∧ a2 ≤ 99
    · by_cases c3 : 1 ≤ a3 ∧ a3 ≤ 1000
      · simp only [c1, c2, c3, not_true_eq_false, not_false_eq_true, if_true, if_false, and_self, true_and, and_true, and_false, false_and]
        rw [ox.1, om.1]
        by_cases c : no = 8
        · simp (disch := omega) only [li_le1, li_le2, li_lt1, li_lt2, li_eq1, li_eq2, li_add1, li_add2, li_sub1, li_sub2, li_mul1, li_mul2, li_div2, nI_leI, nI_ltI, nI_eq, nI_add, nI_sub, nI_mul, nI_div, rI_n, rL_n, rR_n, wI_n, wL_n, li_rI, li_rL, li_rR, li_wI, li_wL, b1_s, bs_l, bs_r, oI_e, oL_e, oR_e, wZ_0, wZ_1, wZ_b, if_true, if_false, not_true_eq_false, not_false_eq_true, c, Nat.lt_irrefl]
          exact ⟨-3, SX, SM, rfl, rfl, h⟩
        · have c' : no < 8 := by omega
          obtain ⟨x1, p1, rfl⟩ := (in_nat (by omega)).mp c1
          obtain ⟨x2, p2, q2, rfl⟩ := in_rng (a := 0) (b := 99) (by omega) c2 (by omega)
          obtain ⟨x3, p3, q3, rfl⟩ := in_rng (a := 1) (b := 1000) (by omega) c3 (by omega)
          unfold fX4_add
          simp (disch := omega) only [li_le1, li_le2, li_lt1, li_lt2, li_eq1, li_eq2, li_add1, li_add2, li_sub1, li_sub2, li_mul1, li_mul2, li_div2, nI_leI, nI_ltI, nI_eq, nI_add, nI_sub, nI_mul, nI_div, rI_n, rL_n, rR_n, wI_n, wL_n, li_rI, li_rL, li_rR, li_wI, li_wL, b1_s, bs_l, bs_r, oI_e, oL_e, oR_e, wZ_0, wZ_1, wZ_b, if_true, if_false, not_true_eq_false, not_false_eq_true, c, c', gI_pI, gI_pL, gI_pA, gI_pB, gI_pR, gI_pW, gL_pI, gL_pL, gL_pA, gL_pB, gL_pR, gL_pW, aI_pI, aI_pL, aI_pA, aI_pB, aI_pR, aI_pW, aL_pI, aL_pL, aL_pA, aL_pB, aL_pR, aL_pW, gR_pI, gR_pL, gR_pA, gR_pB, gR_pR, gR_pW, ox.1, om.1, and_self, Nat.add_sub_cancel, Nat.reduceEqDiff, false_and]
          refine ⟨_, _, _, rfl, rfl, ?_⟩
          have F1 : Fr (fun a b => (a == 42 && b == 5) || (decide (43 ≤ a) && decide (a ≤ 45))) SX (pI_ (pA_ (pA_ (pA_ SX 43 no (nI x1)) 44 no (nI x2)) 45 no (nI x3)) 42 5 (nI (no + 1))) := Fr.pI (by simp) (Fr.pA (by simp) (Fr.pA (by simp) (Fr.pA (by simp) (Fr.refl _ _))))
          have F2 : Fr (fun a b => (a == 0 && b == 22) || (decide (17 ≤ a) && decide (a ≤ 19))) SM (pI_ (pA_ (pA_ (pA_ SM 17 no (nI x1)) 18 no (nI x2)) 19 no (nI x3)) 0 22 (nI (no + 1))) := Fr.pI (by simp) (Fr.pA (by simp) (Fr.pA (by simp) (Fr.pA (by simp) (Fr.refl _ _))))
          refine ⟨hB.fr F1 F2 (fun k j z => by simp [plX, plM, Nat.ble_eq] at z ⊢; omega) (fun k j z => by simp [plX, plM, Nat.ble_eq] at z ⊢; omega), ⟨ns, sw, sh, pr, ls, tn, ⟨sb, sx.fr F1 rfl (fun k j z1 z2 => by simp; omega), sm.fr F2 rfl (fun k j z1 z2 => by simp; omega)⟩, ⟨nk, kw, kh, kg, ka, kb, kx.fr F1 rfl (fun k j z1 z2 => by simp; omega), km.fr F2 rfl (fun k j z1 z2 => by simp; omega)⟩, ⟨no + 1, at_ os no x1, at_ oa no x2, at_ op no x3, ⟨by omega, fun s hs => ?_⟩, ox.push ?_ ?_ ?_ ?_, om.push ?_ ?_ ?_ ?_⟩⟩, hP.fr F1 F2 (fun k j z => by simp [plX, plM, Nat.ble_eq] at z ⊢; omega) (fun k j z => by simp [plX, plM, Nat.ble_eq] at z ⊢; omega), hT.fr F1 F2 (fun k j z => by simp [plX, plM, Nat.ble_eq] at z ⊢; omega) (fun k j z => by simp [plX, plM, Nat.ble_eq] at z ⊢; omega), hL.fr F1 F2 (fun k j z => by simp [plX, plM, Nat.ble_eq] at z ⊢; omega) (fun k j z => by simp [plX, plM, Nat.ble_eq] at z ⊢; omega), hH.fr F1 F2 (fun k j z => by simp [plX, plM, Nat.ble_eq] at z ⊢; omega) (fun k j z => by simp [plX, plM, Nat.ble_eq] at z ⊢; omega), by rw [F1.gI (by simp), F2.gI (by simp)]; exact hE⟩
          · by_cases e : s = no
            · subst e; simp only [at_s]; omega
            · simp only [at_o _ _ e]; exact ob s (by omega)
          all_goals first | (intro s; simp [gI_pI, gI_pL, gI_pA, gI_pB, gI_pR, gI_pW, gL_pI, gL_pL, gL_pA, gL_pB, gL_pR, gL_pW, aI_pI, aI_pL, aI_pA, aI_pB, aI_pR, aI_pW, aL_pI, aL_pL, aL_pA, aL_pB, aL_pR, aL_pW, gR_pI, gR_pL, gR_pA, gR_pB, gR_pR, gR_pW]) | simp [gI_pI, gI_pL, gI_pA, gI_pB, gI_pR, gI_pW, gL_pI, gL_pL, gL_pA, gL_pB, gL_pR, gL_pW, aI_pI, aI_pL, aI_pA, aI_pB, aI_pR, aI_pW, aL_pI, aL_pL, aL_pA, aL_pB, aL_pR, aL_pW, gR_pI, gR_pL, gR_pA, gR_pB, gR_pR, gR_pW]
      · exact ⟨-1, SX, SM, by simp only [c1, c2, c3, not_true_eq_false, not_false_eq_true, if_true, if_false, and_self, true_and, and_true, and_false, false_and], by simp only [c1, c2, c3, not_true_eq_false, not_false_eq_true, if_true, if_false, and_self, true_and, and_true, and_false, false_and], h⟩
    · exact ⟨-1, SX, SM, by simp only [c1, c2, not_true_eq_false, not_false_eq_true, if_true, if_false, and_self, true_and, and_true, and_false, false_and], by simp only [c1, c2, not_true_eq_false, not_false_eq_true, if_true, if_false, and_self, true_and, and_true, and_false, false_and], h⟩
  · exact ⟨-1, SX, SM, by simp only [c1, not_true_eq_false, not_false_eq_true, if_true, if_false, and_self, true_and, and_true, and_false, false_and], by simp only [c1, not_true_eq_false, not_false_eq_true, if_true, if_false, and_self, true_and, and_true, and_false, false_and], h⟩
