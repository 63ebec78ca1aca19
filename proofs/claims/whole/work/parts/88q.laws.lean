/-! laws: forgetting and taking -/
section TAKES
def pF (k1 a b : Nat) : Bool := decide (k1 ≤ a) && decide (a ≤ k1 + 5)
theorem forg1_x (k1 : Nat) (S : St) : ∃ S', lp (fun w21 : Int32 × St => bX3_forget_2 k1 w21.1 w21.2) 5000 (0, S) = some S' ∧ Fr (pF k1) S S' ∧ ∀ q, q < 8 → aI_ S' (k1 + 1) q = nI 1800 ∧ aI_ S' (k1 + 2) q = nI 2000 ∧ aI_ S' (k1 + 3) q = nI 0 := by
  have p1 : ∀ j b, j ≤ 5 → pF k1 (k1 + j) b = true := fun j b hj => by simp [pF]; omega
  obtain ⟨S', hl, hF, hz⟩ := lp_inv (body := fun w21 : Int32 × St => bX3_forget_2 k1 w21.1 w21.2) (fun i s => s.1 = nI i ∧ Fr (pF k1) S s.2 ∧ ∀ q, q < i → aI_ s.2 (k1 + 1) q = nI 1800 ∧ aI_ s.2 (k1 + 2) q = nI 2000 ∧ aI_ s.2 (k1 + 3) q = nI 0) (fun r => Fr (pF k1) S r ∧ ∀ q, q < 8 → aI_ r (k1 + 1) q = nI 1800 ∧ aI_ r (k1 + 2) q = nI 2000 ∧ aI_ r (k1 + 3) q = nI 0) 8 (m := 5000) (s := (0, S)) (by omega) ⟨rfl, Fr.refl _ _, fun q hq => absurd hq (by omega)⟩
    (fun i s hi ⟨h1, h2, h3⟩ => Or.inl ⟨(nI (i + 1), pA_ (pA_ (pA_ s.2 (k1 + 1) i 1800) (k1 + 2) i 2000) (k1 + 3) i 0), by
      have hn : ¬ 8 ≤ i := by omega
      unfold bX3_forget_2
      rw [h1]
      simp (disch := omega) only [li_le1, li_le2, li_lt1, li_lt2, li_eq1, li_eq2, li_add1, li_add2, li_sub1, li_sub2, li_mul1, li_mul2, li_div2, nI_leI, nI_ltI, nI_eq, nI_add, nI_sub, nI_mul, nI_div, rI_n, rL_n, rR_n, wI_n, wL_n, li_rI, li_rL, li_rR, li_wI, li_wL, b1_s, bs_l, bs_r, oI_e, oL_e, oR_e, wZ_0, wZ_1, wZ_b, if_true, if_false, not_true_eq_false, not_false_eq_true, hn], rfl, Fr.pA (p1 3 _ (by omega)) (Fr.pA (p1 2 _ (by omega)) (Fr.pA (p1 1 _ (by omega)) h2)), fun q hq => by
      simp only [aI_pA]
      by_cases e : q = i
      · simp [e]; exact ⟨rfl, rfl, rfl⟩
      · simp [e]; exact h3 q (by omega)⟩)
    (fun s ⟨h1, h2, h3⟩ => ⟨s.2, by
      unfold bX3_forget_2
      rw [h1]
      simp (disch := omega) only [li_le1, li_le2, li_lt1, li_lt2, li_eq1, li_eq2, li_add1, li_add2, li_sub1, li_sub2, li_mul1, li_mul2, li_div2, nI_leI, nI_ltI, nI_eq, nI_add, nI_sub, nI_mul, nI_div, rI_n, rL_n, rR_n, wI_n, wL_n, li_rI, li_rL, li_rR, li_wI, li_wL, b1_s, bs_l, bs_r, oI_e, oL_e, oR_e, wZ_0, wZ_1, wZ_b, if_true, if_false, not_true_eq_false, not_false_eq_true, Nat.le_refl], h2, h3⟩)
  exact ⟨S', hl, hF, hz⟩
theorem forg2_x (k1 : Nat) (S : St) : ∃ S', lp (fun w29 : Int32 × St => bX3_forget_41 k1 w29.1 w29.2) 5000 (0, S) = some S' ∧ Fr (fun a _ => a == k1 + 4 || a == k1 + 5) S S' ∧ ∀ q, q < 8 → aI_ S' (k1 + 4) q = nI 0 ∧ aI_ S' (k1 + 5) q = -4 := by
  obtain ⟨S', hl, hF, hz⟩ := lp_inv (body := fun w21 : Int32 × St => bX3_forget_41 k1 w21.1 w21.2) (fun i s => s.1 = nI i ∧ Fr (fun a _ => a == k1 + 4 || a == k1 + 5) S s.2 ∧ ∀ q, q < i → aI_ s.2 (k1 + 4) q = nI 0 ∧ aI_ s.2 (k1 + 5) q = -4) (fun r => Fr (fun a _ => a == k1 + 4 || a == k1 + 5) S r ∧ ∀ q, q < 8 → aI_ r (k1 + 4) q = nI 0 ∧ aI_ r (k1 + 5) q = -4) 8 (m := 5000) (s := (0, S)) (by omega) ⟨rfl, Fr.refl _ _, fun q hq => absurd hq (by omega)⟩
    (fun i s hi ⟨h1, h2, h3⟩ => Or.inl ⟨(nI (i + 1), pA_ (pA_ s.2 (k1 + 4) i 0) (k1 + 5) i (-4)), by
      have hn : ¬ 8 ≤ i := by omega
      unfold bX3_forget_41
      rw [h1]
      simp (disch := omega) only [li_le1, li_le2, li_lt1, li_lt2, li_eq1, li_eq2, li_add1, li_add2, li_sub1, li_sub2, li_mul1, li_mul2, li_div2, nI_leI, nI_ltI, nI_eq, nI_add, nI_sub, nI_mul, nI_div, rI_n, rL_n, rR_n, wI_n, wL_n, li_rI, li_rL, li_rR, li_wI, li_wL, b1_s, bs_l, bs_r, oI_e, oL_e, oR_e, wZ_0, wZ_1, wZ_b, if_true, if_false, not_true_eq_false, not_false_eq_true, hn], rfl, Fr.pA (by simp) (Fr.pA (by simp) h2), fun q hq => by
      simp only [aI_pA]
      by_cases e : q = i
      · simp [e]; rfl
      · simp [e]; exact h3 q (by omega)⟩)
    (fun s ⟨h1, h2, h3⟩ => ⟨s.2, by
      unfold bX3_forget_41
      rw [h1]
      simp (disch := omega) only [li_le1, li_le2, li_lt1, li_lt2, li_eq1, li_eq2, li_add1, li_add2, li_sub1, li_sub2, li_mul1, li_mul2, li_div2, nI_leI, nI_ltI, nI_eq, nI_add, nI_sub, nI_mul, nI_div, rI_n, rL_n, rR_n, wI_n, wL_n, li_rI, li_rL, li_rR, li_wI, li_wL, b1_s, bs_l, bs_r, oI_e, oL_e, oR_e, wZ_0, wZ_1, wZ_b, if_true, if_false, not_true_eq_false, not_false_eq_true, Nat.le_refl], h2, h3⟩)
  exact ⟨S', hl, hF, hz⟩
def F0x (k1 : Nat) (S : St) : Prop := (∀ q, q < 8 → aI_ S (k1 + 1) q = nI 1800 ∧ aI_ S (k1 + 2) q = nI 2000 ∧ aI_ S (k1 + 3) q = nI 0 ∧ aI_ S (k1 + 4) q = nI 0 ∧ aI_ S (k1 + 5) q = -4) ∧ gI_ S k1 5 = nI 5 ∧ gI_ S k1 6 = nI 0 ∧ gI_ S k1 7 = 0 ∧ gI_ S k1 8 = 0 ∧ gI_ S k1 9 = 0
theorem forget_x (k1 : Nat) (S : St) : ∃ S', fX3_forget k1 S = some S' ∧ Fr (pF k1) S S' ∧ F0x k1 S' := by
  obtain ⟨S1, e1, f1, z1⟩ := forg1_x k1 S
  obtain ⟨S2, e2, f2, z2⟩ := forg2_x k1 S1
  have p0 : ∀ b, pF k1 k1 b = true := fun b => by simp [pF]
  have f2' : Fr (pF k1) S1 S2 := f2.mono (fun a b q => by simp [pF] at q ⊢; omega)
  have f12 := f1.trans f2'
  unfold fX3_forget
  rw [e1, b1_s, e2, b1_s]
  simp only [b1_s, bs_l, bs_r, oI_e, oL_e, oR_e]
  refine ⟨_, rfl, Fr.pI (p0 _) (Fr.pI (p0 _) (Fr.pI (p0 _) (Fr.pI (p0 _) (Fr.pI (p0 _) f12)))), fun q hq => ?_, ?_, ?_, ?_, ?_, ?_⟩
  · obtain ⟨a, b, d⟩ := z1 q hq
    obtain ⟨a2, b2⟩ := z2 q hq
    simp only [aI_pI]
    rw [f2.aI (by simp : ((k1 + 1 == k1 + 4) || (k1 + 1 == k1 + 5)) = false), f2.aI (by simp : ((k1 + 2 == k1 + 4) || (k1 + 2 == k1 + 5)) = false), f2.aI (by simp : ((k1 + 3 == k1 + 4) || (k1 + 3 == k1 + 5)) = false)]
    exact ⟨a, b, d, a2, b2⟩
  · simp [gI_pI, gI_pL, gI_pA, gI_pB, gI_pR, gI_pW, gL_pI, gL_pL, gL_pA, gL_pB, gL_pR, gL_pW, aI_pI, aI_pL, aI_pA, aI_pB, aI_pR, aI_pW, aL_pI, aL_pL, aL_pA, aL_pB, aL_pR, aL_pW, gR_pI, gR_pL, gR_pA, gR_pB, gR_pR, gR_pW]; rfl
  · simp [gI_pI, gI_pL, gI_pA, gI_pB, gI_pR, gI_pW, gL_pI, gL_pL, gL_pA, gL_pB, gL_pR, gL_pW, aI_pI, aI_pL, aI_pA, aI_pB, aI_pR, aI_pW, aL_pI, aL_pL, aL_pA, aL_pB, aL_pR, aL_pW, gR_pI, gR_pL, gR_pA, gR_pB, gR_pR, gR_pW]; rfl
  · simp [gI_pI, gI_pL, gI_pA, gI_pB, gI_pR, gI_pW, gL_pI, gL_pL, gL_pA, gL_pB, gL_pR, gL_pW, aI_pI, aI_pL, aI_pA, aI_pB, aI_pR, aI_pW, aL_pI, aL_pL, aL_pA, aL_pB, aL_pR, aL_pW, gR_pI, gR_pL, gR_pA, gR_pB, gR_pR, gR_pW]
  · simp [gI_pI, gI_pL, gI_pA, gI_pB, gI_pR, gI_pW, gL_pI, gL_pL, gL_pA, gL_pB, gL_pR, gL_pW, aI_pI, aI_pL, aI_pA, aI_pB, aI_pR, aI_pW, aL_pI, aL_pL, aL_pA, aL_pB, aL_pR, aL_pW, gR_pI, gR_pL, gR_pA, gR_pB, gR_pR, gR_pW]
  · simp [gI_pI, gI_pL, gI_pA, gI_pB, gI_pR, gI_pW, gL_pI, gL_pL, gL_pA, gL_pB, gL_pR, gL_pW, aI_pI, aI_pL, aI_pA, aI_pB, aI_pR, aI_pW, aL_pI, aL_pL, aL_pA, aL_pB, aL_pR, aL_pW, gR_pI, gR_pL, gR_pA, gR_pB, gR_pR, gR_pW]
def pG (a b : Nat) : Bool := decide (34 ≤ a) && decide (a ≤ 38)
def F0m (S : St) : Prop := ∀ q, q < 8 → aI_ S 34 q = -4 ∧ aI_ S 35 q = -4 ∧ aI_ S 36 q = nI 0 ∧ aI_ S 37 q = -4 ∧ aI_ S 38 q = -4
theorem forg_m (S : St) : ∃ S', lp (fun w25 : Int32 × St => bX12_laws_23 w25.1 w25.2) 5000 (0, S) = some S' ∧ Fr pG S S' ∧ F0m S' := by
  obtain ⟨S', hl, hF, hz⟩ := lp_inv (body := fun w21 : Int32 × St => bX12_laws_23 w21.1 w21.2) (fun i s => s.1 = nI i ∧ Fr pG S s.2 ∧ ∀ q, q < i → aI_ s.2 34 q = -4 ∧ aI_ s.2 35 q = -4 ∧ aI_ s.2 36 q = nI 0 ∧ aI_ s.2 37 q = -4 ∧ aI_ s.2 38 q = -4) (fun r => Fr pG S r ∧ ∀ q, q < 8 → aI_ r 34 q = -4 ∧ aI_ r 35 q = -4 ∧ aI_ r 36 q = nI 0 ∧ aI_ r 37 q = -4 ∧ aI_ r 38 q = -4) 8 (m := 5000) (s := (0, S)) (by omega) ⟨rfl, Fr.refl _ _, fun q hq => absurd hq (by omega)⟩
    (fun i s hi ⟨h1, h2, h3⟩ => Or.inl ⟨(nI (i + 1), pA_ (pA_ (pA_ (pA_ (pA_ s.2 34 i (-4)) 35 i (-4)) 36 i 0) 37 i (-4)) 38 i (-4)), by
      have hn : ¬ 8 ≤ i := by omega
      unfold bX12_laws_23
      rw [h1]
      simp (disch := omega) only [li_le1, li_le2, li_lt1, li_lt2, li_eq1, li_eq2, li_add1, li_add2, li_sub1, li_sub2, li_mul1, li_mul2, li_div2, nI_leI, nI_ltI, nI_eq, nI_add, nI_sub, nI_mul, nI_div, rI_n, rL_n, rR_n, wI_n, wL_n, li_rI, li_rL, li_rR, li_wI, li_wL, b1_s, bs_l, bs_r, oI_e, oL_e, oR_e, wZ_0, wZ_1, wZ_b, if_true, if_false, not_true_eq_false, not_false_eq_true, hn], rfl, Fr.pA rfl (Fr.pA rfl (Fr.pA rfl (Fr.pA rfl (Fr.pA rfl h2)))), fun q hq => by
      simp only [aI_pA]
      by_cases e : q = i
      · simp [e]; rfl
      · simp [e]; exact h3 q (by omega)⟩)
    (fun s ⟨h1, h2, h3⟩ => ⟨s.2, by
      unfold bX12_laws_23
      rw [h1]
      simp (disch := omega) only [li_le1, li_le2, li_lt1, li_lt2, li_eq1, li_eq2, li_add1, li_add2, li_sub1, li_sub2, li_mul1, li_mul2, li_div2, nI_leI, nI_ltI, nI_eq, nI_add, nI_sub, nI_mul, nI_div, rI_n, rL_n, rR_n, wI_n, wL_n, li_rI, li_rL, li_rR, li_wI, li_wL, b1_s, bs_l, bs_r, oI_e, oL_e, oR_e, wZ_0, wZ_1, wZ_b, if_true, if_false, not_true_eq_false, not_false_eq_true, Nat.le_refl], h2, h3⟩)
  exact ⟨S', hl, hF, hz⟩
def dv4 (x d : Int32) : Int32 := if x = -4 then d else x
theorem dv4_e (x d : Int32) : ((if x = (-4) then some d else b1 (some x) fun y => some y) : Option Int32) = some (dv4 x d) := by
  unfold dv4
  split <;> rfl
theorem dv4_s (o : Option Nat) (d : Nat) (h : ∀ v, o = some v → v < 100000) : dv4 (sv o) (nI d) = nI (o.getD d) := by
  unfold dv4
  cases o with
  | none => rfl
  | some v =>
    have := h v rfl
    have n4 : ¬ nI v = -4 := fun z => (m4_ne (a := v) (by omega)).mp z
    exact if_neg n4
theorem t31 (v : Int32) (S : St) : bX12_takes_31b v S = bX12_takes_31 v S := rfl
theorem take_s (S : St) {i : Nat} (hi : i < 8) : bX12_takes_31 (nI i) S = some (.inl (nI (i + 1), pA_ (pA_ (pA_ (pA_ (pA_ S 29 i (dv4 (aI_ S 34 i) 1800)) 30 i (dv4 (aI_ S 35 i) 2000)) 31 i (aI_ S 36 i)) 32 i (dv4 (aI_ S 37 i) 0)) 33 i (aI_ S 38 i))) := by
  have n8 : ¬ (8 : Int32) ≤ nI i := nI_ge (b := 8) hi (by omega)
  have ea : nI i + 1 = nI (i + 1) := nI_add _ 1
  unfold bX12_takes_31
  rw [if_neg n8, rI_n hi (by omega), b1_s, dv4_e, b1_s, wI_n hi (by omega), b1_s, rI_n hi (by omega), b1_s, dv4_e, b1_s, wI_n hi (by omega), b1_s, rI_n hi (by omega), b1_s, wI_n hi (by omega), b1_s, rI_n hi (by omega), b1_s, dv4_e, b1_s, wI_n hi (by omega), b1_s, rI_n hi (by omega), b1_s, wI_n hi (by omega), b1_s, ea]
  simp [aI_pA]
def pT (a b : Nat) : Bool := decide (29 ≤ a) && decide (a ≤ 33)
def Tkn (S S' : St) (i : Nat) : Prop := ∀ q, q < i → aI_ S' 29 q = dv4 (aI_ S 34 q) 1800 ∧ aI_ S' 30 q = dv4 (aI_ S 35 q) 2000 ∧ aI_ S' 31 q = aI_ S 36 q ∧ aI_ S' 32 q = dv4 (aI_ S 37 q) 0 ∧ aI_ S' 33 q = aI_ S 38 q
theorem take_l (S : St) : ∃ S', lp (fun w23 : Int32 × St => bX12_takes_31 w23.1 w23.2) 5000 (0, S) = some S' ∧ Fr pT S S' ∧ Tkn S S' 8 := by
  obtain ⟨S', hl, hF, hz⟩ := lp_inv (body := fun w21 : Int32 × St => bX12_takes_31 w21.1 w21.2) (fun i s => s.1 = nI i ∧ Fr pT S s.2 ∧ Tkn S s.2 i) (fun r => Fr pT S r ∧ Tkn S r 8) 8 (m := 5000) (s := (0, S)) (by omega) ⟨rfl, Fr.refl _ _, fun q hq => absurd hq (by omega)⟩
    (fun i s hi ⟨h1, h2, h3⟩ => Or.inl ⟨_, by
      show bX12_takes_31 s.1 s.2 = _
      rw [h1]
      exact take_s s.2 hi, rfl, Fr.pA rfl (Fr.pA rfl (Fr.pA rfl (Fr.pA rfl (Fr.pA rfl h2)))), fun q hq => by
      simp only [aI_pA]
      by_cases e : q = i
      · subst e
        rw [h2.aI (by rfl : pT 34 q = false), h2.aI (by rfl : pT 35 q = false), h2.aI (by rfl : pT 36 q = false), h2.aI (by rfl : pT 37 q = false), h2.aI (by rfl : pT 38 q = false)]
        simp
      · simp [e]; exact h3 q (by omega)⟩)
    (fun s ⟨h1, h2, h3⟩ => ⟨s.2, by
      unfold bX12_takes_31
      rw [h1]
      rfl, h2, h3⟩)
  exact ⟨S', hl, hF, hz⟩
def pU (a b : Nat) : Bool := pT a b || (a == 0 && (b == 46 || b == 49))
theorem takes_m {S : St} {lim : Option Nat} (h53 : gI_ S 0 53 = sv lim) (hl : ∀ v, lim = some v → v < 100000) : ∃ S', fX12_takes S = some S' ∧ Fr pU S S' ∧ Tkn S S' 8 ∧ gI_ S' 0 46 = nI (lim.getD 5) ∧ gI_ S' 0 49 = gI_ S 0 56 := by
  have key : ∀ v : Int32, ∃ S', (b1 (oI_ S 0 46 v) fun S21 => b1 (oI_ S21 0 49 (gI_ S21 0 56)) fun S22 => b1 (lp (fun w23 : Int32 × St => bX12_takes_31 w23.1 w23.2) 5000 (0, S22)) fun u46 => some u46) = some S' ∧ Fr pU S S' ∧ Tkn S S' 8 ∧ gI_ S' 0 46 = v ∧ gI_ S' 0 49 = gI_ S 0 56 := fun v => by
    obtain ⟨S1, e, f, z⟩ := take_l (pI_ (pI_ S 0 46 v) 0 49 (gI_ (pI_ S 0 46 v) 0 56))
    rw [oI_e, b1_s, oI_e, b1_s, e, b1_s]
    have fm : Fr pU (pI_ (pI_ S 0 46 v) 0 49 (gI_ (pI_ S 0 46 v) 0 56)) S1 := f.mono (fun a b q => by simp [pU] at q; exact q.1)
    refine ⟨S1, rfl, (Fr.pI rfl (Fr.pI rfl (Fr.refl pU S))).trans fm, z, ?_, ?_⟩
    · rw [f.gI rfl]; simp [gI_pI, gI_pL, gI_pA, gI_pB, gI_pR, gI_pW, gL_pI, gL_pL, gL_pA, gL_pB, gL_pR, gL_pW, aI_pI, aI_pL, aI_pA, aI_pB, aI_pR, aI_pW, aL_pI, aL_pL, aL_pA, aL_pB, aL_pR, aL_pW, gR_pI, gR_pL, gR_pA, gR_pB, gR_pR, gR_pW]
    · rw [f.gI rfl]; simp [gI_pI, gI_pL, gI_pA, gI_pB, gI_pR, gI_pW, gL_pI, gL_pL, gL_pA, gL_pB, gL_pR, gL_pW, aI_pI, aI_pL, aI_pA, aI_pB, aI_pR, aI_pW, aL_pI, aL_pL, aL_pA, aL_pB, aL_pR, aL_pW, gR_pI, gR_pL, gR_pA, gR_pB, gR_pR, gR_pW]
  unfold fX12_takes
  rw [h53]
  cases lim with
  | none =>
    have e4 : sv none = -4 := rfl
    rw [if_pos e4]
    exact key 5
  | some v =>
    have := hl v rfl
    have n4 : ¬ sv (some v) = -4 := fun z => (m4_ne (a := v) (by omega)).mp z
    rw [if_neg n4]
    exact key (nI v)
end TAKES
