/-! the burl: crack, grain, undo, world, doubt -/
theorem copy_x (S : St) (k0 k1 : Nat) : fX1_copyFrom k0 k1 S = some (pW_ (pL_ (pI_ (pI_ S k0 0 (gI_ S k1 0)) k0 1 (gI_ S k1 1)) k0 2 (gL_ S k1 2)) (k0 + 1) (va_cpy (S.2.2.1 (k1 + 1)) (S.2.2.1 (k0 + 1)) 0 0 64)) := by
  unfold fX1_copyFrom
  simp only [b1_s, bs_l, bs_r, oI_e, oL_e, oR_e, gI_pI, gI_pL, gI_pA, gI_pB, gI_pR, gI_pW, gL_pI, gL_pL, gL_pA, gL_pB, gL_pR, gL_pW, aI_pI, aI_pL, aI_pA, aI_pB, aI_pR, aI_pW, aL_pI, aL_pL, aL_pA, aL_pB, aL_pR, aL_pW, gR_pI, gR_pL, gR_pA, gR_pB, gR_pR, gR_pW, Nat.one_ne_zero, and_false, if_false]
  unfold cp_
  rw [if_pos (by decide)]
  rfl
theorem copy_bx {S : St} {k0 k1 w h : Nat} {cr : Nat → Bool} {gr : Nat → Nat} (hb : BX S k1 w h cr gr) : ∃ S', fX1_copyFrom k0 k1 S = some S' ∧ BX S' k0 w h cr gr ∧ Fr (fun a b => a == k0 || a == k0 + 1) S S' := by
  refine ⟨_, copy_x S k0 k1, ⟨?_, ?_, fun q hq => ?_, fun q hq => ?_⟩, ?_⟩
  · simp [gI_pI, gI_pL, gI_pA, gI_pB, gI_pR, gI_pW, gL_pI, gL_pL, gL_pA, gL_pB, gL_pR, gL_pW, aI_pI, aI_pL, aI_pA, aI_pB, aI_pR, aI_pW, aL_pI, aL_pL, aL_pA, aL_pB, aL_pR, aL_pW, gR_pI, gR_pL, gR_pA, gR_pB, gR_pR, gR_pW]; exact hb.1
  · simp [gI_pI, gI_pL, gI_pA, gI_pB, gI_pR, gI_pW, gL_pI, gL_pL, gL_pA, gL_pB, gL_pR, gL_pW, aI_pI, aI_pL, aI_pA, aI_pB, aI_pR, aI_pW, aL_pI, aL_pL, aL_pA, aL_pB, aL_pR, aL_pW, gR_pI, gR_pL, gR_pA, gR_pB, gR_pR, gR_pW]; exact hb.2.1
  · simp [gI_pI, gI_pL, gI_pA, gI_pB, gI_pR, gI_pW, gL_pI, gL_pL, gL_pA, gL_pB, gL_pR, gL_pW, aI_pI, aI_pL, aI_pA, aI_pB, aI_pR, aI_pW, aL_pI, aL_pL, aL_pA, aL_pB, aL_pR, aL_pW, gR_pI, gR_pL, gR_pA, gR_pB, gR_pR, gR_pW]; exact hb.2.2.1 q hq
  · simp only [gI_pI, gI_pL, gI_pA, gI_pB, gI_pR, gI_pW, gL_pI, gL_pL, gL_pA, gL_pB, gL_pR, gL_pW, aI_pI, aI_pL, aI_pA, aI_pB, aI_pR, aI_pW, aL_pI, aL_pL, aL_pA, aL_pB, aL_pR, aL_pW, gR_pI, gR_pL, gR_pA, gR_pB, gR_pR, gR_pW, if_true]
    rw [pk_cpy_in (by omega) (by omega)]
    show aI_ S (k1 + 1) (0 + (q - 0)) = _
    rw [show 0 + (q - 0) = q by omega]
    exact hb.2.2.2 q hq
  · exact Fr.pW (fun j z => by simp at z) (Fr.pL (by simp) (Fr.pI (by simp) (Fr.pI (by simp) (Fr.refl _ _))))
theorem keep_x {S : St} {w h n nx : Nat} {cr : Nat → Bool} {gr : Nat → Nat} (hb : BX S 1 w h cr gr) (h1 : gI_ S 3 1 = nI nx) (hx : nx < 8) (h2 : gI_ S 3 2 = nI n) (hn : n ≤ 8) : ∃ S', fX0_keep 1 S = some S' ∧ BX S' (5 + 2 * nx) w h cr gr ∧ gI_ S' 3 1 = nI ((nx + 1) % 8) ∧ gI_ S' 3 2 = nI (min 8 (n + 1)) ∧ Fr (fun a b => a == 5 + 2 * nx || a == 6 + 2 * nx || (a == 3 && (b == 1 || b == 2))) S S' := by
  obtain ⟨S1, e1, b, f⟩ := copy_bx (k0 := 5 + 2 * nx) hb
  unfold fX0_keep
  have g1 : gI_ S1 3 1 = nI nx := by rw [f.gI (by simp; omega)]; exact h1
  have g2 : gI_ S1 3 2 = nI n := by rw [f.gI (by simp; omega)]; exact h2
  rw [h1]
  simp (disch := omega) only [li_le1, li_le2, li_lt1, li_lt2, li_eq1, li_eq2, li_add1, li_add2, li_sub1, li_sub2, li_mul1, li_mul2, li_div2, nI_leI, nI_ltI, nI_eq, nI_add, nI_sub, nI_mul, nI_div, rI_n, rL_n, rR_n, wI_n, wL_n, li_rI, li_rL, li_rR, li_wI, li_wL, b1_s, bs_l, bs_r, oI_e, oL_e, oR_e, wZ_0, wZ_1, wZ_b, if_true, if_false, not_true_eq_false, not_false_eq_true, e1, g1]
  have e2 : (if nx = 7 then some 0 else some (nI (nx + 1)) : Option Int32) = some (nI ((nx + 1) % 8)) := by
    by_cases z : nx = 7
    · subst z; rfl
    · rw [if_neg z, Nat.mod_eq_of_lt (by omega)]
  rw [e2]
  have e3 : mmin_ 8 (nI (n + 1)) = nI (min 8 (n + 1)) := mmin_n (a := 8) (by omega) (by omega)
  simp only [b1_s, bs_l, bs_r, oI_e, oL_e, oR_e, gI_pI, gI_pL, gI_pA, gI_pB, gI_pR, gI_pW, gL_pI, gL_pL, gL_pA, gL_pB, gL_pR, gL_pW, aI_pI, aI_pL, aI_pA, aI_pB, aI_pR, aI_pW, aL_pI, aL_pL, aL_pA, aL_pB, aL_pR, aL_pW, gR_pI, gR_pL, gR_pA, gR_pB, gR_pR, gR_pW, Nat.reduceEqDiff, and_false, if_false, g2]
  simp (disch := omega) only [li_le1, li_le2, li_lt1, li_lt2, li_eq1, li_eq2, li_add1, li_add2, li_sub1, li_sub2, li_mul1, li_mul2, li_div2, nI_leI, nI_ltI, nI_eq, nI_add, nI_sub, nI_mul, nI_div, rI_n, rL_n, rR_n, wI_n, wL_n, li_rI, li_rL, li_rR, li_wI, li_wL, b1_s, bs_l, bs_r, oI_e, oL_e, oR_e, wZ_0, wZ_1, wZ_b, if_true, if_false, not_true_eq_false, not_false_eq_true, e3]
  refine ⟨_, rfl, ⟨?_, ?_, fun q hq => ?_, fun q hq => ?_⟩, ?_, ?_, ?_⟩
  · simp only [gI_pI, gI_pL, gI_pA, gI_pB, gI_pR, gI_pW, gL_pI, gL_pL, gL_pA, gL_pB, gL_pR, gL_pW, aI_pI, aI_pL, aI_pA, aI_pB, aI_pR, aI_pW, aL_pI, aL_pL, aL_pA, aL_pB, aL_pR, aL_pW, gR_pI, gR_pL, gR_pA, gR_pB, gR_pR, gR_pW]; rw [if_neg (by omega), if_neg (by omega)]; exact b.1
  · simp only [gI_pI, gI_pL, gI_pA, gI_pB, gI_pR, gI_pW, gL_pI, gL_pL, gL_pA, gL_pB, gL_pR, gL_pW, aI_pI, aI_pL, aI_pA, aI_pB, aI_pR, aI_pW, aL_pI, aL_pL, aL_pA, aL_pB, aL_pR, aL_pW, gR_pI, gR_pL, gR_pA, gR_pB, gR_pR, gR_pW]; rw [if_neg (by omega), if_neg (by omega)]; exact b.2.1
  · simp only [gI_pI, gI_pL, gI_pA, gI_pB, gI_pR, gI_pW, gL_pI, gL_pL, gL_pA, gL_pB, gL_pR, gL_pW, aI_pI, aI_pL, aI_pA, aI_pB, aI_pR, aI_pW, aL_pI, aL_pL, aL_pA, aL_pB, aL_pR, aL_pW, gR_pI, gR_pL, gR_pA, gR_pB, gR_pR, gR_pW]; exact b.2.2.1 q hq
  · simp only [gI_pI, gI_pL, gI_pA, gI_pB, gI_pR, gI_pW, gL_pI, gL_pL, gL_pA, gL_pB, gL_pR, gL_pW, aI_pI, aI_pL, aI_pA, aI_pB, aI_pR, aI_pW, aL_pI, aL_pL, aL_pA, aL_pB, aL_pR, aL_pW, gR_pI, gR_pL, gR_pA, gR_pB, gR_pR, gR_pW]; exact b.2.2.2 q hq
  · simp [gI_pI, gI_pL, gI_pA, gI_pB, gI_pR, gI_pW, gL_pI, gL_pL, gL_pA, gL_pB, gL_pR, gL_pW, aI_pI, aI_pL, aI_pA, aI_pB, aI_pR, aI_pW, aL_pI, aL_pL, aL_pA, aL_pB, aL_pR, aL_pW, gR_pI, gR_pL, gR_pA, gR_pB, gR_pR, gR_pW]
  · simp [gI_pI, gI_pL, gI_pA, gI_pB, gI_pR, gI_pW, gL_pI, gL_pL, gL_pA, gL_pB, gL_pR, gL_pW, aI_pI, aI_pL, aI_pA, aI_pB, aI_pR, aI_pW, aL_pI, aL_pL, aL_pA, aL_pB, aL_pR, aL_pW, gR_pI, gR_pL, gR_pA, gR_pB, gR_pR, gR_pW]
  · refine Fr.pI (by simp) (Fr.pI (by simp) (f.mono (by intro a b z; simp at z ⊢; omega)))
theorem keep_cp {S : St} {m : Nat} {cr : Nat → Bool} {gr : Nat → Nat} (hb : BM S 1 2 0 cr gr) (h2 : gI_ S 0 6 = nI m) (hm : m ≤ 7) : ∃ S', lp (fun w22 : Int32 × St => bX12_keeps_67 w22.1 w22.2) 5000 (0, S) = some S' ∧ BM S' 4 5 (64 * m) cr gr ∧ (∀ q, (q < 64 * m ∨ 64 * m + 64 ≤ q) → aI_ S' 4 q = aI_ S 4 q ∧ aI_ S' 5 q = aI_ S 5 q) ∧ Fr (fun a _ => a == 4 || a == 5) S S' := by
  obtain ⟨S', hl, hF, hz, ho⟩ := lp_inv (body := fun w22 : Int32 × St => bX12_keeps_67 w22.1 w22.2) (fun i s => s.1 = nI i ∧ Fr (fun a _ => a == 4 || a == 5) S s.2 ∧ (∀ q, q < i → aI_ s.2 4 (64 * m + q) = zb (cr q) ∧ aI_ s.2 5 (64 * m + q) = nI (gr q)) ∧ (∀ q, (q < 64 * m ∨ 64 * m + 64 ≤ q) → aI_ s.2 4 q = aI_ S 4 q ∧ aI_ s.2 5 q = aI_ S 5 q)) (fun r => Fr (fun a _ => a == 4 || a == 5) S r ∧ (∀ q, q < 64 → aI_ r 4 (64 * m + q) = zb (cr q) ∧ aI_ r 5 (64 * m + q) = nI (gr q)) ∧ (∀ q, (q < 64 * m ∨ 64 * m + 64 ≤ q) → aI_ r 4 q = aI_ S 4 q ∧ aI_ r 5 q = aI_ S 5 q)) 64 (m := 5000) (s := (0, S)) (by omega) ⟨rfl, Fr.refl _ _, fun q hq => absurd hq (by omega), fun q _ => ⟨rfl, rfl⟩⟩
    (fun i s hi ⟨h1, h3, h4, h5⟩ => Or.inl ⟨(nI (i + 1), pA_ (pA_ s.2 4 (64 * m + i) (zb (cr i))) 5 (64 * m + i) (nI (gr i))), by
      have hn : ¬ 64 ≤ i := by omega
      unfold bX12_keeps_67
      have g : gI_ s.2 0 6 = nI m := by rw [h3.gI (by simp)]; exact h2
      have g1 : aI_ s.2 1 i = zb (cr i) := by rw [h3.aI (by simp)]; simpa using (hb i (by omega)).1
      have g2 : aI_ s.2 2 i = nI (gr i) := by rw [h3.aI (by simp)]; simpa using (hb i (by omega)).2
      rw [h1]
      simp (disch := omega) only [li_le1, li_le2, li_lt1, li_lt2, li_eq1, li_eq2, li_add1, li_add2, li_sub1, li_sub2, li_mul1, li_mul2, li_div2, nI_leI, nI_ltI, nI_eq, nI_add, nI_sub, nI_mul, nI_div, rI_n, rL_n, rR_n, wI_n, wL_n, li_rI, li_rL, li_rR, li_wI, li_wL, b1_s, bs_l, bs_r, oI_e, oL_e, oR_e, wZ_0, wZ_1, wZ_b, if_true, if_false, not_true_eq_false, not_false_eq_true, hn, g, g1, gI_pI, gI_pL, gI_pA, gI_pB, gI_pR, gI_pW, gL_pI, gL_pL, gL_pA, gL_pB, gL_pR, gL_pW, aI_pI, aI_pL, aI_pA, aI_pB, aI_pR, aI_pW, aL_pI, aL_pL, aL_pA, aL_pB, aL_pR, aL_pW, gR_pI, gR_pL, gR_pA, gR_pB, gR_pR, gR_pW, Nat.reduceEqDiff, and_false, false_and, g2], rfl, (h3.pA (by simp)).pA (by simp), fun q hq => by
      simp only [aI_pA]
      by_cases e : q = i
      · simp [e]
      · simp [e]; exact h4 q (by omega), fun q hq => by
      simp only [aI_pA]
      rw [if_neg (by omega), if_neg (by omega), if_neg (by omega), if_neg (by omega)]
      exact h5 q hq⟩)
    (fun s ⟨h1, h3, h4, h5⟩ => ⟨s.2, by
      unfold bX12_keeps_67
      rw [h1]
      simp (disch := omega) only [li_le1, li_le2, li_lt1, li_lt2, li_eq1, li_eq2, li_add1, li_add2, li_sub1, li_sub2, li_mul1, li_mul2, li_div2, nI_leI, nI_ltI, nI_eq, nI_add, nI_sub, nI_mul, nI_div, rI_n, rL_n, rR_n, wI_n, wL_n, li_rI, li_rL, li_rR, li_wI, li_wL, b1_s, bs_l, bs_r, oI_e, oL_e, oR_e, wZ_0, wZ_1, wZ_b, if_true, if_false, not_true_eq_false, not_false_eq_true, Nat.le_refl], h3, h4, h5⟩)
  exact ⟨S', hl, hz, ho, hF⟩
theorem keep_sh {S : St} (hb : ∀ q, q < 512 → ∃ b, aI_ S 4 q = zb b) : ∃ S', lp (fun w32 : Int32 × St => bX12_keeps_12 w32.1 w32.2) 5000 (64, S) = some S' ∧ (∀ q, q < 448 → aI_ S' 4 q = aI_ S 4 (q + 64) ∧ aI_ S' 5 q = aI_ S 5 (q + 64)) ∧ Fr (fun a _ => a == 4 || a == 5) S S' := by
  obtain ⟨S', hl, hF, hz⟩ := lp_inv (body := fun w32 : Int32 × St => bX12_keeps_12 w32.1 w32.2) (fun i s => s.1 = nI (64 + i) ∧ Fr (fun a _ => a == 4 || a == 5) S s.2 ∧ (∀ q, q < i → aI_ s.2 4 q = aI_ S 4 (q + 64) ∧ aI_ s.2 5 q = aI_ S 5 (q + 64)) ∧ (∀ q, i ≤ q → aI_ s.2 4 q = aI_ S 4 q ∧ aI_ s.2 5 q = aI_ S 5 q)) (fun r => Fr (fun a _ => a == 4 || a == 5) S r ∧ (∀ q, q < 448 → aI_ r 4 q = aI_ S 4 (q + 64) ∧ aI_ r 5 q = aI_ S 5 (q + 64))) 448 (m := 5000) (s := (64, S)) (by omega) ⟨rfl, Fr.refl _ _, fun q hq => absurd hq (by omega), fun q _ => ⟨rfl, rfl⟩⟩
    (fun i s hi ⟨h1, h3, h4, h5⟩ => Or.inl ⟨(nI (64 + i + 1), pA_ (pA_ s.2 4 i (aI_ S 4 (64 + i))) 5 i (aI_ S 5 (64 + i))), by
      have hn : ¬ 512 ≤ 64 + i := by omega
      unfold bX12_keeps_12
      have g1 : aI_ s.2 4 (64 + i) = aI_ S 4 (64 + i) := (h5 _ (by omega)).1
      have g2 : aI_ s.2 5 (64 + i) = aI_ S 5 (64 + i) := (h5 _ (by omega)).2
      obtain ⟨b, g3⟩ := hb (64 + i) (by omega)
      rw [h1]
      simp (disch := omega) only [li_le1, li_le2, li_lt1, li_lt2, li_eq1, li_eq2, li_add1, li_add2, li_sub1, li_sub2, li_mul1, li_mul2, li_div2, nI_leI, nI_ltI, nI_eq, nI_add, nI_sub, nI_mul, nI_div, rI_n, rL_n, rR_n, wI_n, wL_n, li_rI, li_rL, li_rR, li_wI, li_wL, b1_s, bs_l, bs_r, oI_e, oL_e, oR_e, wZ_0, wZ_1, wZ_b, if_true, if_false, not_true_eq_false, not_false_eq_true, hn, Nat.add_sub_cancel_left, g1, g3, gI_pI, gI_pL, gI_pA, gI_pB, gI_pR, gI_pW, gL_pI, gL_pL, gL_pA, gL_pB, gL_pR, gL_pW, aI_pI, aI_pL, aI_pA, aI_pB, aI_pR, aI_pW, aL_pI, aL_pL, aL_pA, aL_pB, aL_pR, aL_pW, gR_pI, gR_pL, gR_pA, gR_pB, gR_pR, gR_pW, Nat.reduceEqDiff, false_and, g2], rfl, (h3.pA (by simp)).pA (by simp), fun q hq => by
      simp only [aI_pA]
      by_cases e : q = i
      · simp [e, Nat.add_comm]
      · simp [e]; exact h4 q (by omega), fun q hq => by
      simp only [aI_pA]
      rw [if_neg (by omega), if_neg (by omega), if_neg (by omega), if_neg (by omega)]
      exact h5 q (by omega)⟩)
    (fun s ⟨h1, h3, h4, h5⟩ => ⟨s.2, by
      unfold bX12_keeps_12
      rw [h1]
      simp (disch := omega) only [li_le1, li_le2, li_lt1, li_lt2, li_eq1, li_eq2, li_add1, li_add2, li_sub1, li_sub2, li_mul1, li_mul2, li_div2, nI_leI, nI_ltI, nI_eq, nI_add, nI_sub, nI_mul, nI_div, rI_n, rL_n, rR_n, wI_n, wL_n, li_rI, li_rL, li_rR, li_wI, li_wL, b1_s, bs_l, bs_r, oI_e, oL_e, oR_e, wZ_0, wZ_1, wZ_b, if_true, if_false, not_true_eq_false, not_false_eq_true, Nat.le_refl, Nat.reduceAdd], h3, h4⟩)
  exact ⟨S', hl, hz, hF⟩
theorem keeps_m {S : St} {n : Nat} {cr : Nat → Bool} {gr : Nat → Nat} {ac : Nat → Nat → Bool} {ag : Nat → Nat → Nat} (hb : BM S 1 2 0 cr gr) (h2 : gI_ S 0 6 = nI n) (hn : n ≤ 8) (ha : ∀ j, j < n → BM S 4 5 (64 * j) (ac j) (ag j)) : ∃ S', fX12_keeps S = some S' ∧ gI_ S' 0 6 = nI (min 8 (n + 1)) ∧ (n < 8 → (∀ j, j < n → BM S' 4 5 (64 * j) (ac j) (ag j)) ∧ BM S' 4 5 (64 * n) cr gr) ∧ (n = 8 → (∀ j, j < 7 → BM S' 4 5 (64 * j) (ac (j + 1)) (ag (j + 1))) ∧ BM S' 4 5 (64 * 7) cr gr) ∧ Fr (fun a b => a == 4 || a == 5 || (a == 0 && b == 6)) S S' := by
  unfold fX12_keeps
  rcases Nat.lt_or_ge n 8 with q | q
  · obtain ⟨S', e1, b, o, f⟩ := keep_cp hb h2 (by omega)
    have g : gI_ S' 0 6 = nI n := by rw [f.gI (by simp)]; exact h2
    have z : ¬ n = 8 := by omega
    rw [h2]
    simp (disch := omega) only [li_le1, li_le2, li_lt1, li_lt2, li_eq1, li_eq2, li_add1, li_add2, li_sub1, li_sub2, li_mul1, li_mul2, li_div2, nI_leI, nI_ltI, nI_eq, nI_add, nI_sub, nI_mul, nI_div, rI_n, rL_n, rR_n, wI_n, wL_n, li_rI, li_rL, li_rR, li_wI, li_wL, b1_s, bs_l, bs_r, oI_e, oL_e, oR_e, wZ_0, wZ_1, wZ_b, if_true, if_false, not_true_eq_false, not_false_eq_true, z, e1, g]
    refine ⟨_, rfl, ?_, fun _ => ⟨fun j hj q hq => ?_, fun q hq => ?_⟩, fun w => w.elim, ?_⟩
    · simp only [gI_pI, gI_pL, gI_pA, gI_pB, gI_pR, gI_pW, gL_pI, gL_pL, gL_pA, gL_pB, gL_pR, gL_pW, aI_pI, aI_pL, aI_pA, aI_pB, aI_pR, aI_pW, aL_pI, aL_pL, aL_pA, aL_pB, aL_pR, aL_pW, gR_pI, gR_pL, gR_pA, gR_pB, gR_pR, gR_pW, and_self, if_true]; rw [Nat.min_eq_right (by omega)]
    · simp only [gI_pI, gI_pL, gI_pA, gI_pB, gI_pR, gI_pW, gL_pI, gL_pL, gL_pA, gL_pB, gL_pR, gL_pW, aI_pI, aI_pL, aI_pA, aI_pB, aI_pR, aI_pW, aL_pI, aL_pL, aL_pA, aL_pB, aL_pR, aL_pW, gR_pI, gR_pL, gR_pA, gR_pB, gR_pR, gR_pW]; rw [(o _ (by omega)).1, (o _ (by omega)).2]; exact ha j hj q hq
    · simp only [gI_pI, gI_pL, gI_pA, gI_pB, gI_pR, gI_pW, gL_pI, gL_pL, gL_pA, gL_pB, gL_pR, gL_pW, aI_pI, aI_pL, aI_pA, aI_pB, aI_pR, aI_pW, aL_pI, aL_pL, aL_pA, aL_pB, aL_pR, aL_pW, gR_pI, gR_pL, gR_pA, gR_pB, gR_pR, gR_pW]; exact b q hq
    · exact Fr.pI (by simp) (f.mono (by intro a b z; simp at z ⊢; omega))
  · obtain rfl : n = 8 := by omega
    obtain ⟨S0, e0, sh, f0⟩ := keep_sh (S := S) (fun q hq => ⟨ac (q / 64) (q % 64), by
      have := (ha (q / 64) (by omega) (q % 64) (by omega)).1
      rw [show 64 * (q / 64) + q % 64 = q by omega] at this
      exact this⟩)
    have g0 : gI_ S0 0 6 = nI 8 := by rw [f0.gI (by simp)]; exact h2
    obtain ⟨S', e1, b, o, f⟩ := keep_cp (S := pI_ S0 0 6 (nI 7)) (m := 7) (cr := cr) (gr := gr) (fun q hq => by simp only [gI_pI, gI_pL, gI_pA, gI_pB, gI_pR, gI_pW, gL_pI, gL_pL, gL_pA, gL_pB, gL_pR, gL_pW, aI_pI, aI_pL, aI_pA, aI_pB, aI_pR, aI_pW, aL_pI, aL_pL, aL_pA, aL_pB, aL_pR, aL_pW, gR_pI, gR_pL, gR_pA, gR_pB, gR_pR, gR_pW]; rw [f0.aI (by simp), f0.aI (by simp)]; exact hb q hq) (by simp [gI_pI, gI_pL, gI_pA, gI_pB, gI_pR, gI_pW, gL_pI, gL_pL, gL_pA, gL_pB, gL_pR, gL_pW, aI_pI, aI_pL, aI_pA, aI_pB, aI_pR, aI_pW, aL_pI, aL_pL, aL_pA, aL_pB, aL_pR, aL_pW, gR_pI, gR_pL, gR_pA, gR_pB, gR_pR, gR_pW]) (by omega)
    have g : gI_ S' 0 6 = nI 7 := by rw [f.gI (by simp)]; simp [gI_pI, gI_pL, gI_pA, gI_pB, gI_pR, gI_pW, gL_pI, gL_pL, gL_pA, gL_pB, gL_pR, gL_pW, aI_pI, aI_pL, aI_pA, aI_pB, aI_pR, aI_pW, aL_pI, aL_pL, aL_pA, aL_pB, aL_pR, aL_pW, gR_pI, gR_pL, gR_pA, gR_pB, gR_pR, gR_pW]
    rw [h2]
    simp (disch := omega) only [li_le1, li_le2, li_lt1, li_lt2, li_eq1, li_eq2, li_add1, li_add2, li_sub1, li_sub2, li_mul1, li_mul2, li_div2, nI_leI, nI_ltI, nI_eq, nI_add, nI_sub, nI_mul, nI_div, rI_n, rL_n, rR_n, wI_n, wL_n, li_rI, li_rL, li_rR, li_wI, li_wL, b1_s, bs_l, bs_r, oI_e, oL_e, oR_e, wZ_0, wZ_1, wZ_b, if_true, if_false, not_true_eq_false, not_false_eq_true, e0, g0, Nat.reduceSub, e1, g]
    refine ⟨_, rfl, ?_, fun w => absurd w (by omega), fun _ => ⟨fun j hj q hq => ?_, fun q hq => ?_⟩, ?_⟩
    · simp only [gI_pI, gI_pL, gI_pA, gI_pB, gI_pR, gI_pW, gL_pI, gL_pL, gL_pA, gL_pB, gL_pR, gL_pW, aI_pI, aI_pL, aI_pA, aI_pB, aI_pR, aI_pW, aL_pI, aL_pL, aL_pA, aL_pB, aL_pR, aL_pW, gR_pI, gR_pL, gR_pA, gR_pB, gR_pR, gR_pW, and_self, if_true]; rfl
    · simp only [gI_pI, gI_pL, gI_pA, gI_pB, gI_pR, gI_pW, gL_pI, gL_pL, gL_pA, gL_pB, gL_pR, gL_pW, aI_pI, aI_pL, aI_pA, aI_pB, aI_pR, aI_pW, aL_pI, aL_pL, aL_pA, aL_pB, aL_pR, aL_pW, gR_pI, gR_pL, gR_pA, gR_pB, gR_pR, gR_pW]
      rw [(o _ (by omega)).1, (o _ (by omega)).2]
      simp only [gI_pI, gI_pL, gI_pA, gI_pB, gI_pR, gI_pW, gL_pI, gL_pL, gL_pA, gL_pB, gL_pR, gL_pW, aI_pI, aI_pL, aI_pA, aI_pB, aI_pR, aI_pW, aL_pI, aL_pL, aL_pA, aL_pB, aL_pR, aL_pW, gR_pI, gR_pL, gR_pA, gR_pB, gR_pR, gR_pW]
      rw [(sh _ (by omega)).1, (sh _ (by omega)).2]
      have := ha (j + 1) (by omega) q hq
      rw [show 64 * (j + 1) + q = 64 * j + q + 64 by omega] at this
      exact this
    · simp only [gI_pI, gI_pL, gI_pA, gI_pB, gI_pR, gI_pW, gL_pI, gL_pL, gL_pA, gL_pB, gL_pR, gL_pW, aI_pI, aI_pL, aI_pA, aI_pB, aI_pR, aI_pW, aL_pI, aL_pL, aL_pA, aL_pB, aL_pR, aL_pW, gR_pI, gR_pL, gR_pA, gR_pB, gR_pR, gR_pW]; exact b q hq
    · refine Fr.pI (by simp) (Fr.trans (f0.mono (by intro a b z; simp at z ⊢; omega)) (Fr.trans (Fr.pI (by simp) (Fr.refl _ _)) (f.mono (by intro a b z; simp at z ⊢; omega))))
/-- an act is kept on both sides -/
theorem keep_sim {SX SM : St} {w h : Nat} {cr : Nat → Bool} {gr : Nat → Nat} (hb : Brd SX SM w h cr gr) (ha : ∃ n nx ac ag, Act SX SM w h n nx ac ag) : ∃ SX' SM', fX0_keep 1 SX = some SX' ∧ fX12_keeps SM = some SM' ∧ (∃ n nx ac ag, Act SX' SM' w h n nx ac ag) ∧ Fr (fun a b => (decide (5 ≤ a) && decide (a ≤ 20)) || (a == 3 && (b == 1 || b == 2))) SX SX' ∧ Fr (fun a b => a == 4 || a == 5 || (a == 0 && b == 6)) SM SM' := by
  obtain ⟨n, nx, ac, ag, ⟨hn, hx⟩, a1, a2, a3, a4⟩ := ha
  obtain ⟨SX', e1, b1, c1, d1, f1⟩ := keep_x hb.2.2.1 a1 hx a2 hn
  obtain ⟨SM', e2, c2, d2, d3, f2⟩ := keeps_m hb.2.2.2.2.2 a3 hn (fun j hj => (a4 j hj).2.1)
  refine ⟨SX', SM', e1, e2, ?_, f1.mono (by intro a b z; simp at z ⊢; omega), f2⟩
  have old : ∀ i w h cr gr, i < 8 → i ≠ nx → BX SX (5 + 2 * i) w h cr gr → BX SX' (5 + 2 * i) w h cr gr := fun i w h cr gr hi hne z => z.fr f1 (fun j => by simp; omega) (fun j => by simp; omega)
  rcases Nat.lt_or_ge n 8 with q | q
  · refine ⟨n + 1, (nx + 1) % 8, fun j => if j = n then cr else ac j, fun j => if j = n then gr else ag j, ⟨by omega, by omega⟩, c1, ?_, ?_, fun j hj => ?_⟩
    · rw [d1, Nat.min_eq_right (by omega)]
    · rw [c2, Nat.min_eq_right (by omega)]
    · by_cases e : j = n
      · subst e
        simp only [if_true]
        rw [show ((nx + 1) % 8 + 8 - (j + 1) + j) % 8 = nx by omega]
        exact ⟨b1, (d2 q).2, hb.2.1⟩
      · simp only [e, if_false]
        obtain ⟨z1, z2, z3⟩ := a4 j (by omega)
        refine ⟨?_, (d2 q).1 j (by omega), z3⟩
        have ee : ((nx + 1) % 8 + 8 - (n + 1) + j) % 8 = (nx + 8 - n + j) % 8 := by omega
        rw [ee]
        exact old _ _ _ _ _ (by omega) (by omega) z1
  · obtain rfl : n = 8 := by omega
    refine ⟨8, (nx + 1) % 8, fun j => if j = 7 then cr else ac (j + 1), fun j => if j = 7 then gr else ag (j + 1), ⟨by omega, by omega⟩, c1, d1, c2, fun j hj => ?_⟩
    by_cases e : j = 7
    · subst e
      simp only [if_true]
      rw [show ((nx + 1) % 8 + 8 - 8 + 7) % 8 = nx by omega]
      exact ⟨b1, (d3 rfl).2, hb.2.1⟩
    · simp only [e, if_false]
      obtain ⟨z1, z2, z3⟩ := a4 (j + 1) (by omega)
      refine ⟨?_, (d3 rfl).1 j (by omega), z3⟩
      have ee : ((nx + 1) % 8 + 8 - 8 + j) % 8 = (nx + 8 - 8 + (j + 1)) % 8 := by omega
      rw [ee]
      exact old _ _ _ _ _ (by omega) (by omega) z1
