/-! the saw: marks, shapes by size, what a pipe brings -/
def mkb (gr : Nat → Nat) (vc : Nat) (vw : Nat → Nat → Bool) (i q : Nat) : Bool := decide (i ≤ gr q) || (decide (10 ≤ i) && (decide (i < 10 + vc) && !vw (i - 10) q))
def brs (gr : Nat → Nat) (vc : Nat) (vw : Nat → Nat → Bool) (sw sh pr ls : Nat → Nat) (tn : Nat → Bool) (s x y w h : Nat) : Nat := if (ofSz sw sh tn s w h && allB (fun q => decide (ls s ≤ gr q)) x y w h) = true then pr s * fb_ct (fun v => decide (v < vc) && allB (fun q => !vw v q) x y w h) 4 else 0
def pvl (gr : Nat → Nat) (vc : Nat) (vw : Nat → Nat → Bool) (n : Nat) (sw sh pr ls : Nat → Nat) (tn : Nat → Bool) (x y w h : Nat) : Nat := mx0 (fun s => brs gr vc vw sw sh pr ls tn s x y w h) n
theorem two_shl : ∀ g, g < 10 → ∀ i, i < 32 → bt (((2 : Int32) <<< (nI g &&& 31)) - 1) i = decide (i ≤ g) := by decide +kernel
theorem allB_c {p q : Nat → Bool} {x y w h : Nat} (hx : x + w ≤ 8) (hy : y + h ≤ 8) (hpq : ∀ k, k < 64 → p k = q k) : allB p x y w h = allB q x y w h := by
  unfold allB
  rw [decide_eq_decide]
  constructor
  · intro z j hj i hi; rw [← hpq _ (by omega)]; exact z j hj i hi
  · intro z j hj i hi; rw [hpq _ (by omega)]; exact z j hj i hi
theorem marks_in {S : St} {vc g x y : Nat} {vw : Nat → Nat → Bool} {gr : Nat → Nat} (h3 : gI_ S 27 3 = nI vc) (hvc : vc ≤ 4) (hv : ∀ v, v < vc → ∀ q, q < 64 → lt_ (aL_ S 28 v) q = vw v q) (hx : x < 8) (hy : y < 8) (hg : gr (8 * y + x) = g) (hg9 : g ≤ 9) : ∃ m, lp (fun w30 : Int32 × Int32 => bX6_markSquares_47 (nI y) (nI x) S w30.1 w30.2) 5000 (((2 : Int32) <<< (nI g &&& 31)) - 1, 0) = some m ∧ ∀ i, i < 32 → bt m i = mkb gr vc vw i (8 * y + x) := by
  refine lp_inv (body := fun w30 : Int32 × Int32 => bX6_markSquares_47 (nI y) (nI x) S w30.1 w30.2) (fun v s => ∃ m, s = (m, nI v) ∧ ∀ i, i < 32 → bt m i = mkb gr v vw i (8 * y + x)) _ vc (m := 5000) (s := (((2 : Int32) <<< (nI g &&& 31)) - 1, 0)) (by omega) ⟨_, rfl, fun i hi => ?_⟩ (fun v s hv' ⟨m, hs, hm⟩ => ?_) (fun s ⟨m, hs, hm⟩ => ?_)
  · rw [two_shl g (by omega) i hi]
    unfold mkb
    rw [hg]
    by_cases c : 10 ≤ i
    · have : ¬ i < 10 + 0 := by omega
      simp [this]
    · simp [c]
  · subst hs
    have hn' : ¬ vc ≤ v := by omega
    left
    unfold bX6_markSquares_47
    rw [h3]
    simp (disch := omega) only [li_le1, li_le2, li_lt1, li_lt2, li_eq1, li_eq2, li_add1, li_add2, li_sub1, li_sub2, li_mul1, li_mul2, li_div2, nI_leI, nI_ltI, nI_eq, nI_add, nI_sub, nI_mul, nI_div, rI_n, rL_n, rR_n, wI_n, wL_n, li_rI, li_rL, li_rR, li_wI, li_wL, b1_s, bs_l, bs_r, oI_e, oL_e, oR_e, wZ_0, wZ_1, wZ_b, if_true, if_false, not_true_eq_false, not_false_eq_true, hn', bit_e S hx hy, hv v hv' (8 * y + x) (by omega)]
    refine ⟨_, rfl, _, rfl, fun i hi => ?_⟩
    have e : (1 : Int32) - zb (vw v (8 * y + x)) = zb (!vw v (8 * y + x)) := by cases vw v (8 * y + x) <;> rfl
    rw [e, b_or, hm i hi, b_shl (10 + v) (by omega) _ hi]
    have e2 : ∀ b : Bool, ∀ j, j < 32 → bt (zb b) j = (decide (j = 0) && b) := fun b j hj => by
      cases b with
      | false => show bt 0 j = _; rw [b_0]; simp
      | true => show bt 1 j = _; rw [b_1 j hj]; simp
    rw [e2 _ (i - (10 + v)) (by omega)]
    unfold mkb
    by_cases c : i = 10 + v
    · subst c
      simp
    · by_cases c2 : 10 + v ≤ i
      · have c3 : ¬ i - (10 + v) = 0 := by omega
        have c4 : ¬ i < 10 + v := by omega
        have c5 : ¬ i < 10 + (v + 1) := by omega
        simp [c2, c3, c4, c5]
      · have c4 : (i < 10 + v) := by omega
        have c5 : (i < 10 + (v + 1)) := by omega
        simp [c2, c4, c5]
  · subst hs
    refine ⟨m, ?_, hm⟩
    unfold bX6_markSquares_47
    rw [h3]
    simp (disch := omega) only [li_le1, li_le2, li_lt1, li_lt2, li_eq1, li_eq2, li_add1, li_add2, li_sub1, li_sub2, li_mul1, li_mul2, li_div2, nI_leI, nI_ltI, nI_eq, nI_add, nI_sub, nI_mul, nI_div, rI_n, rL_n, rR_n, wI_n, wL_n, li_rI, li_rL, li_rR, li_wI, li_wL, b1_s, bs_l, bs_r, oI_e, oL_e, oR_e, wZ_0, wZ_1, wZ_b, if_true, if_false, not_true_eq_false, not_false_eq_true, Nat.le_refl]
theorem marks_row {S : St} {W H vc : Nat} {cr : Nat → Bool} {gr : Nat → Nat} {vw : Nat → Nat → Bool} (hx : BX S 1 W H cr gr) (hb : GrB gr) (hW : W ≤ 8) (hH : H ≤ 8) (h3 : gI_ S 27 3 = nI vc) (hvc : vc ≤ 4) (hv : ∀ v, v < vc → ∀ q, q < 64 → lt_ (aL_ S 28 v) q = vw v q) (y : Nat) (S1 : St) (hy : y < H) (f0 : Fr (fun a _ => a == 29) S S1) (old : ∀ y', y' < y → ∀ x, x < W → ∀ i, i < 32 → bt (aI_ S1 29 (8 * y' + x)) i = mkb gr vc vw i (8 * y' + x)) : ∃ S', lp (fun w24 : Int32 × St => bX6_markSquares_15 (nI y) w24.1 w24.2) 5000 (0, S1) = some S' ∧ Fr (fun a _ => a == 29) S S' ∧ (∀ y', y' < y + 1 → ∀ x, x < W → ∀ i, i < 32 → bt (aI_ S' 29 (8 * y' + x)) i = mkb gr vc vw i (8 * y' + x)) := by
  refine lp_inv (body := fun w24 : Int32 × St => bX6_markSquares_15 (nI y) w24.1 w24.2) (fun x s => s.1 = nI x ∧ Fr (fun a _ => a == 29) S s.2 ∧ (∀ y', y' < y → ∀ x', x' < W → ∀ i, i < 32 → bt (aI_ s.2 29 (8 * y' + x')) i = mkb gr vc vw i (8 * y' + x')) ∧ (∀ x', x' < x → ∀ i, i < 32 → bt (aI_ s.2 29 (8 * y + x')) i = mkb gr vc vw i (8 * y + x'))) (fun r => Fr (fun a _ => a == 29) S r ∧ (∀ y', y' < y + 1 → ∀ x, x < W → ∀ i, i < 32 → bt (aI_ r 29 (8 * y' + x)) i = mkb gr vc vw i (8 * y' + x))) W (m := 5000) (s := (0, S1)) (by omega) ⟨rfl, f0, old, fun x' hx' => absurd hx' (by omega)⟩ (fun x s hx' ⟨k1, k2, k3, k4⟩ => ?_) (fun s ⟨k1, k2, k3, k4⟩ => ?_)
  · have hn' : ¬ W ≤ x := by omega
    have g0 : gI_ s.2 1 0 = nI W := by rw [k2.gI (by simp)]; exact hx.1
    have g1 : aI_ s.2 2 (8 * y + x) = nI (gr (8 * y + x)) := by rw [k2.aI (by simp)]; exact hx.2.2.2 _ (by omega)
    obtain ⟨m, e, hm⟩ := marks_in (S := s.2) (vc := vc) (gr := gr) (vw := vw) (g := gr (8 * y + x)) (x := x) (y := y) (by rw [k2.gI (by simp)]; exact h3) hvc (fun v hv' q hq => by rw [k2.aL (by simp)]; exact hv v hv' q hq) (by omega) (by omega) rfl (hb _ (by omega))
    left
    have esq : nI y * 8 + nI x = nI (8 * y + x) := by
      have : nI y * 8 = nI (y * 8) := nI_mul y 8
      rw [this, nI_add, Nat.mul_comm y 8]
    unfold bX6_markSquares_15 fX11_squareAt
    rw [k1, g0, if_neg (nI_ge hx' (by omega)), esq, b1_s, rI_n (by omega) (by omega), b1_s, g1, b1_s, e, b1_s, b1_s, wI_n (by omega) (by omega), b1_s, nI_1]
    refine ⟨_, rfl, rfl, k2.pA (by simp), fun y' hy' x' hx2 i hi => ?_, fun x' hx2 i hi => ?_⟩
    · simp only [aI_pA, true_and]
      rw [if_neg (by omega)]
      exact k3 y' hy' x' hx2 i hi
    · simp only [aI_pA, true_and]
      by_cases c : x' = x
      · rw [c, if_pos rfl]; exact hm i hi
      · rw [if_neg (by omega)]; exact k4 x' (by omega) i hi
  · refine ⟨s.2, ?_, k2, fun y' hy' x hx' i hi => ?_⟩
    · have g0 : gI_ s.2 1 0 = nI W := by rw [k2.gI (by simp)]; exact hx.1
      unfold bX6_markSquares_15
      rw [k1, g0, if_pos (nI_le (Nat.le_refl W) (by omega))]
    · by_cases c : y' = y
      · rw [c]; exact k4 x hx' i hi
      · exact k3 y' (by omega) x hx' i hi
theorem marks_x {S : St} {W H vc : Nat} {cr : Nat → Bool} {gr : Nat → Nat} {vw : Nat → Nat → Bool} (hx : BX S 1 W H cr gr) (hb : GrB gr) (hW : W ≤ 8) (hH : H ≤ 8) (h3 : gI_ S 27 3 = nI vc) (hvc : vc ≤ 4) (hv : ∀ v, v < vc → ∀ q, q < 64 → lt_ (aL_ S 28 v) q = vw v q) : ∃ S', fX6_markSquares S = some S' ∧ (∀ y, y < H → ∀ x, x < W → ∀ i, i < 32 → bt (aI_ S' 29 (8 * y + x)) i = mkb gr vc vw i (8 * y + x)) ∧ Fr (fun a _ => a == 29) S S' := by
  unfold fX6_markSquares
  obtain ⟨S', e, q1, q2⟩ := lp_inv (body := fun w21 : Int32 × St => bX6_markSquares_2 w21.1 w21.2) (fun y s => s.1 = nI y ∧ Fr (fun a _ => a == 29) S s.2 ∧ (∀ y', y' < y → ∀ x, x < W → ∀ i, i < 32 → bt (aI_ s.2 29 (8 * y' + x)) i = mkb gr vc vw i (8 * y' + x))) (fun r => Fr (fun a _ => a == 29) S r ∧ (∀ y', y' < H → ∀ x, x < W → ∀ i, i < 32 → bt (aI_ r 29 (8 * y' + x)) i = mkb gr vc vw i (8 * y' + x))) H (m := 5000) (s := (0, S)) (by omega) ⟨rfl, Fr.refl _ _, fun y' hy' => absurd hy' (by omega)⟩
    (fun y s hy ⟨k1, k2, k3⟩ => by
      have hn' : ¬ H ≤ y := by omega
      have g0 : gI_ s.2 1 1 = nI H := by rw [k2.gI (by simp)]; exact hx.2.1
      obtain ⟨S2, e, r1, r2⟩ := marks_row hx hb hW hH h3 hvc hv y s.2 hy k2 k3
      left
      unfold bX6_markSquares_2
      rw [k1, g0]
      simp (disch := omega) only [li_le1, li_le2, li_lt1, li_lt2, li_eq1, li_eq2, li_add1, li_add2, li_sub1, li_sub2, li_mul1, li_mul2, li_div2, nI_leI, nI_ltI, nI_eq, nI_add, nI_sub, nI_mul, nI_div, rI_n, rL_n, rR_n, wI_n, wL_n, li_rI, li_rL, li_rR, li_wI, li_wL, b1_s, bs_l, bs_r, oI_e, oL_e, oR_e, wZ_0, wZ_1, wZ_b, if_true, if_false, not_true_eq_false, not_false_eq_true, hn', e]
      exact ⟨_, rfl, rfl, r1, r2⟩)
    (fun s ⟨k1, k2, k3⟩ => ⟨s.2, by
      have g0 : gI_ s.2 1 1 = nI H := by rw [k2.gI (by simp)]; exact hx.2.1
      unfold bX6_markSquares_2
      rw [k1, g0]
      simp (disch := omega) only [li_le1, li_le2, li_lt1, li_lt2, li_eq1, li_eq2, li_add1, li_add2, li_sub1, li_sub2, li_mul1, li_mul2, li_div2, nI_leI, nI_ltI, nI_eq, nI_add, nI_sub, nI_mul, nI_div, rI_n, rL_n, rR_n, wI_n, wL_n, li_rI, li_rL, li_rR, li_wI, li_wL, b1_s, bs_l, bs_r, oI_e, oL_e, oR_e, wZ_0, wZ_1, wZ_b, if_true, if_false, not_true_eq_false, not_false_eq_true, Nat.le_refl], k2, k3⟩)
  rw [e]
  exact ⟨S', rfl, q2, q1⟩
theorem sort_x {S : St} {n : Nat} {sw sh pr ls : Nat → Nat} {tn : Nat → Bool} (hs : Shp S 21 5 22 n sw sh pr ls tn) (sb : ShB n sw sh pr ls) : ∃ S', fX6_sortShapes S = some S' ∧ (∀ w h, 1 ≤ w → w ≤ 8 → 1 ≤ h → h ≤ 8 → ∀ s, s < 32 → bt (aI_ S' 30 (8 * (h - 1) + (w - 1))) s = (decide (s < n) && ofSz sw sh tn s w h)) ∧ Fr (fun a _ => a == 30) S S' := by
  have hn := sb.1
  unfold fX6_sortShapes
  obtain ⟨S1, e1, f1, z1⟩ := lp_inv (body := fun w21 : Int32 × St => bX6_sortShapes_2 w21.1 w21.2) (fun i s => s.1 = nI i ∧ Fr (fun a _ => a == 30) S s.2 ∧ ∀ q, q < i → aI_ s.2 30 q = 0) (fun r => Fr (fun a _ => a == 30) S r ∧ ∀ q, q < 64 → aI_ r 30 q = 0) 64 (m := 5000) (s := (0, S)) (by omega) ⟨rfl, Fr.refl _ _, fun q hq => absurd hq (by omega)⟩
    (fun i s hi ⟨h1, h2, h3⟩ => Or.inl ⟨(nI (i + 1), pA_ s.2 30 i 0), by
      have hn : ¬ 64 ≤ i := by omega
      unfold bX6_sortShapes_2
      rw [h1]
      simp (disch := omega) only [li_le1, li_le2, li_lt1, li_lt2, li_eq1, li_eq2, li_add1, li_add2, li_sub1, li_sub2, li_mul1, li_mul2, li_div2, nI_leI, nI_ltI, nI_eq, nI_add, nI_sub, nI_mul, nI_div, rI_n, rL_n, rR_n, wI_n, wL_n, li_rI, li_rL, li_rR, li_wI, li_wL, b1_s, bs_l, bs_r, oI_e, oL_e, oR_e, wZ_0, wZ_1, wZ_b, if_true, if_false, not_true_eq_false, not_false_eq_true, hn], rfl, h2.pA (by simp), fun q hq => by
      rw [aI_pA]
      by_cases e : q = i
      · simp [e]
      · simp [e]; exact h3 q (by omega)⟩)
    (fun s ⟨h1, h2, h3⟩ => ⟨s.2, by
      unfold bX6_sortShapes_2
      rw [h1]
      simp (disch := omega) only [li_le1, li_le2, li_lt1, li_lt2, li_eq1, li_eq2, li_add1, li_add2, li_sub1, li_sub2, li_mul1, li_mul2, li_div2, nI_leI, nI_ltI, nI_eq, nI_add, nI_sub, nI_mul, nI_div, rI_n, rL_n, rR_n, wI_n, wL_n, li_rI, li_rL, li_rR, li_wI, li_wL, b1_s, bs_l, bs_r, oI_e, oL_e, oR_e, wZ_0, wZ_1, wZ_b, if_true, if_false, not_true_eq_false, not_false_eq_true, Nat.le_refl], h2, h3⟩)
  rw [e1]
  simp only [b1_s, bs_l, bs_r, oI_e, oL_e, oR_e]
  obtain ⟨S2, e2, f2, z2⟩ := lp_inv (body := fun w27 : Int32 × St => bX6_sortShapes_23 w27.1 w27.2) (fun t s => s.1 = nI t ∧ Fr (fun a _ => a == 30) S s.2 ∧ ∀ w h, 1 ≤ w → w ≤ 8 → 1 ≤ h → h ≤ 8 → ∀ b, b < 32 → bt (aI_ s.2 30 (8 * (h - 1) + (w - 1))) b = (decide (b < t) && ofSz sw sh tn b w h)) (fun r => Fr (fun a _ => a == 30) S r ∧ ∀ w h, 1 ≤ w → w ≤ 8 → 1 ≤ h → h ≤ 8 → ∀ b, b < 32 → bt (aI_ r 30 (8 * (h - 1) + (w - 1))) b = (decide (b < n) && ofSz sw sh tn b w h)) n (m := 5000) (s := (0, S1)) (by omega) ⟨rfl, f1, fun w h a1 a2 a3 a4 b hb => by rw [z1 _ (by omega), b_0]; simp⟩
    (fun t s ht ⟨k1, k2, k3⟩ => by
      have hn' : ¬ n ≤ t := by omega
      obtain ⟨b1, b2, b3, b4⟩ := sb.2 t ht
      obtain ⟨g1, g2, g3, g4, g5⟩ := hs.2 t ht
      have c0 : gI_ s.2 21 5 = nI n := by rw [k2.gI (by simp)]; exact hs.1
      have c1 : aI_ s.2 22 t = nI (sw t) := by rw [k2.aI (by simp)]; exact g1
      have c2 : aI_ s.2 23 t = nI (sh t) := by rw [k2.aI (by simp)]; exact g2
      have c5 : aI_ s.2 26 t = zb (tn t) := by rw [k2.aI (by simp)]; exact g5
      left
      unfold bX6_sortShapes_23 fX11_squareAt
      rw [k1, c0]
      simp (disch := omega) only [li_le1, li_le2, li_lt1, li_lt2, li_eq1, li_eq2, li_add1, li_add2, li_sub1, li_sub2, li_mul1, li_mul2, li_div2, nI_leI, nI_ltI, nI_eq, nI_add, nI_sub, nI_mul, nI_div, rI_n, rL_n, rR_n, wI_n, wL_n, li_rI, li_rL, li_rR, li_wI, li_wL, b1_s, bs_l, bs_r, oI_e, oL_e, oR_e, wZ_0, wZ_1, wZ_b, if_true, if_false, not_true_eq_false, not_false_eq_true, hn', c1, c2, gI_pI, gI_pL, gI_pA, gI_pB, gI_pR, gI_pW, gL_pI, gL_pL, gL_pA, gL_pB, gL_pR, gL_pW, aI_pI, aI_pL, aI_pA, aI_pB, aI_pR, aI_pW, aL_pI, aL_pL, aL_pA, aL_pB, aL_pR, aL_pW, gR_pI, gR_pL, gR_pA, gR_pB, gR_pR, gR_pW, Nat.reduceEqDiff, false_and, c5, zb_0, true_and]
      have one : ∀ b, b < 32 → bt ((1 : Int32) <<< (nI t &&& 31)) b = decide (b = t) := fun b hb => one_shl t (by omega) hb
      cases htn : tn t with
      | false =>
        rw [if_pos rfl]
        refine ⟨_, rfl, rfl, k2.pA (by simp), fun w h a1 a2 a3 a4 b hb => ?_⟩
        simp only [aI_pA, true_and]
        by_cases e : 8 * (h - 1) + (w - 1) = (sh t - 1) * 8 + (sw t - 1)
        · have ew : w = sw t := by omega
          have eh : h = sh t := by omega
          rw [if_pos e, b_or, one b hb, ← e, k3 w h a1 a2 a3 a4 b hb]
          by_cases c : b = t
          · subst c; simp [ofSz, ew, eh]
          · by_cases c' : b < t
            · have : b < t + 1 := by omega
              simp [c, c', this]
            · have : ¬ b < t + 1 := by omega
              simp [c, c', this]
        · rw [if_neg e, k3 w h a1 a2 a3 a4 b hb]
          by_cases c : b = t
          · subst c
            have : ¬ (sw b = w ∧ sh b = h) := fun q => e (by omega)
            have o : ofSz sw sh tn b w h = false := by
              unfold ofSz
              rw [htn]
              by_cases y1 : sw b = w
              · by_cases y2 : sh b = h
                · exact absurd ⟨y1, y2⟩ this
                · simp [y2]
              · simp [y1]
            simp [o]
          · by_cases c' : b < t
            · have : b < t + 1 := by omega
              simp [c', this]
            · have : ¬ b < t + 1 := by omega
              simp [c', this]
      | true =>
        rw [if_neg (by simp)]
        refine ⟨_, rfl, rfl, (k2.pA (by simp)).pA (by simp), fun w h a1 a2 a3 a4 b hb => ?_⟩
        simp only [aI_pA, true_and]
        have old := k3 w h a1 a2 a3 a4 b hb
        have i1 : (8 * (h - 1) + (w - 1) = (sh t - 1) * 8 + (sw t - 1)) ↔ (sw t = w ∧ sh t = h) := by omega
        have i2 : (8 * (h - 1) + (w - 1) = (sw t - 1) * 8 + (sh t - 1)) ↔ (sw t = h ∧ sh t = w) := by omega
        have val : bt (if 8 * (h - 1) + (w - 1) = (sw t - 1) * 8 + (sh t - 1) then (if (sw t - 1) * 8 + (sh t - 1) = (sh t - 1) * 8 + (sw t - 1) then aI_ s.2 30 ((sh t - 1) * 8 + (sw t - 1)) ||| (1 : Int32) <<< (nI t &&& 31) else aI_ s.2 30 ((sw t - 1) * 8 + (sh t - 1))) ||| (1 : Int32) <<< (nI t &&& 31) else if 8 * (h - 1) + (w - 1) = (sh t - 1) * 8 + (sw t - 1) then aI_ s.2 30 ((sh t - 1) * 8 + (sw t - 1)) ||| (1 : Int32) <<< (nI t &&& 31) else aI_ s.2 30 (8 * (h - 1) + (w - 1))) b = (bt (aI_ s.2 30 (8 * (h - 1) + (w - 1))) b || (decide (b = t) && ((decide (sw t = h) && decide (sh t = w)) || (decide (sw t = w) && decide (sh t = h))))) := by
          by_cases d2 : 8 * (h - 1) + (w - 1) = (sw t - 1) * 8 + (sh t - 1)
          · have d2' := i2.mp d2
            rw [if_pos d2]
            by_cases d3 : (sw t - 1) * 8 + (sh t - 1) = (sh t - 1) * 8 + (sw t - 1)
            · rw [if_pos d3, b_or, b_or, one b hb, show (sh t - 1) * 8 + (sw t - 1) = 8 * (h - 1) + (w - 1) by omega]
              simp [d2'.1, d2'.2]
            · rw [if_neg d3, b_or, one b hb, ← d2]
              simp [d2'.1, d2'.2]
          · rw [if_neg d2]
            have d2' : ¬ (sw t = h ∧ sh t = w) := fun q => d2 (i2.mpr q)
            have d2b : (decide (sw t = h) && decide (sh t = w)) = false := by
              by_cases y1 : sw t = h
              · by_cases y2 : sh t = w
                · exact absurd ⟨y1, y2⟩ d2'
                · simp [y2]
              · simp [y1]
            rw [d2b, Bool.false_or]
            by_cases d1 : 8 * (h - 1) + (w - 1) = (sh t - 1) * 8 + (sw t - 1)
            · have d1' := i1.mp d1
              rw [if_pos d1, b_or, one b hb, ← d1]
              simp [d1'.1, d1'.2]
            · rw [if_neg d1]
              have d1' : ¬ (sw t = w ∧ sh t = h) := fun q => d1 (i1.mpr q)
              have d1b : (decide (sw t = w) && decide (sh t = h)) = false := by
                by_cases y1 : sw t = w
                · by_cases y2 : sh t = h
                  · exact absurd ⟨y1, y2⟩ d1'
                  · simp [y2]
                · simp [y1]
              rw [d1b]; simp
        rw [val, old]
        by_cases c : b = t
        · subst c
          unfold ofSz
          rw [htn]
          simp
          rw [Bool.or_comm]
        · by_cases c' : b < t
          · have : b < t + 1 := by omega
            simp [c, c', this]
          · have : ¬ b < t + 1 := by omega
            simp [c, c', this])
    (fun s ⟨k1, k2, k3⟩ => ⟨s.2, by
      have c0 : gI_ s.2 21 5 = nI n := by rw [k2.gI (by simp)]; exact hs.1
      unfold bX6_sortShapes_23
      rw [k1, c0]
      simp (disch := omega) only [li_le1, li_le2, li_lt1, li_lt2, li_eq1, li_eq2, li_add1, li_add2, li_sub1, li_sub2, li_mul1, li_mul2, li_div2, nI_leI, nI_ltI, nI_eq, nI_add, nI_sub, nI_mul, nI_div, rI_n, rL_n, rR_n, wI_n, wL_n, li_rI, li_rL, li_rR, li_wI, li_wL, b1_s, bs_l, bs_r, oI_e, oL_e, oR_e, wZ_0, wZ_1, wZ_b, if_true, if_false, not_true_eq_false, not_false_eq_true, Nat.le_refl], k2, k3⟩)
  rw [e2]
  exact ⟨S2, rfl, z2, f2⟩
