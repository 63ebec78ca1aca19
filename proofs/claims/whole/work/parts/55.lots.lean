/-! lots -/
def sm32 (c : Nat → Bool) (f : Nat → Int32) : Nat → Int32
  | 0 => 0
  | i + 1 => if c i then sm32 c f i + f i else sm32 c f i
def abv (c : Nat → Bool) (d : Nat → Int32) : Nat → Nat
  | 0 => 0
  | i + 1 => if c i then (if d i ≤ 0 then 0 else abv c d i + 1) else abv c d i
def blw (c : Nat → Bool) (d : Nat → Int32) : Nat → Nat
  | 0 => 0
  | i + 1 => if c i then (if 0 ≤ d i then 0 else blw c d i + 1) else blw c d i
def lng (c : Nat → Bool) (d : Nat → Int32) : Nat → Nat
  | 0 => 0
  | i + 1 => if c i then max (lng c d i) (max (abv c d (i + 1)) (blw c d (i + 1))) else lng c d i
theorem abv_le (c : Nat → Bool) (d : Nat → Int32) : ∀ i, abv c d i ≤ i := by
  intro i
  induction i with
  | zero => exact Nat.le_refl 0
  | succ i ih => rw [abv]; split <;> (try split) <;> omega
theorem blw_le (c : Nat → Bool) (d : Nat → Int32) : ∀ i, blw c d i ≤ i := by
  intro i
  induction i with
  | zero => exact Nat.le_refl 0
  | succ i ih => rw [blw]; split <;> (try split) <;> omega
theorem lng_le (c : Nat → Bool) (d : Nat → Int32) : ∀ i, lng c d i ≤ i := by
  intro i
  induction i with
  | zero => exact Nat.le_refl 0
  | succ i ih =>
    rw [lng]
    have := abv_le c d (i + 1)
    have := blw_le c d (i + 1)
    split
    · exact Nat.max_le.mpr ⟨by omega, Nat.max_le.mpr ⟨by omega, by omega⟩⟩
    · omega
theorem abv_blw (c : Nat → Bool) (d : Nat → Int32) : ∀ i, abv c d i = 0 ∨ blw c d i = 0 := by
  intro i
  induction i with
  | zero => exact Or.inl rfl
  | succ i ih =>
    rw [abv, blw]
    by_cases h : c i = true
    · rw [if_pos h, if_pos h]
      by_cases z : d i ≤ 0
      · exact Or.inl (if_pos z)
      · exact Or.inr (if_pos (Int32.le_of_lt (fa_of_nle z)))
    · rw [if_neg h, if_neg h]; exact ih
theorem many_x {S : St} {n l : Nat} {lo : Nat → Nat} (h1 : gI_ S 49 6 = nI n) (hn : n ≤ 12) (hl : l < 2 ^ 31) (h2 : ∀ p, p < n → aI_ S 50 p = nI (lo p) ∧ lo p ≤ 5) : fX5_howMany S (nI l) = some (nI (fb_ct (fun p => decide (lo p = l)) n)) := by
  unfold fX5_howMany
  rw [lp_seq' (m := 5000) (s := ((0 : Int32), (0 : Int32))) (body := fun w21 : Int32 × Int32 => bX5_howMany_4 S (nI l) w21.1 w21.2) (fun i => (nI (fb_ct (fun p => decide (lo p = l)) i), nI i)) n (r := nI (fb_ct (fun p => decide (lo p = l)) n)) rfl (by omega) (fun i hi => by
    have hn' : ¬ n ≤ i := by omega
    obtain ⟨g1, g2⟩ := h2 i hi
    show bX5_howMany_4 S (nI l) (nI (fb_ct (fun p => decide (lo p = l)) i)) (nI i) = _
    unfold bX5_howMany_4
    rw [h1]
    simp (disch := omega) only [li_le1, li_le2, li_lt1, li_lt2, li_eq1, li_eq2, li_add1, li_add2, li_sub1, li_sub2, li_mul1, li_mul2, li_div2, nI_leI, nI_ltI, nI_eq, nI_add, nI_sub, nI_mul, nI_div, rI_n, rL_n, rR_n, wI_n, wL_n, li_rI, li_rL, li_rR, li_wI, li_wL, b1_s, bs_l, bs_r, oI_e, oL_e, oR_e, wZ_0, wZ_1, wZ_b, if_true, if_false, not_true_eq_false, not_false_eq_true, hn', g1, fb_ct_succ]
    by_cases z : lo i = l <;> simp [z]) (by
    show bX5_howMany_4 S (nI l) (nI (fb_ct (fun p => decide (lo p = l)) n)) (nI n) = _
    unfold bX5_howMany_4
    rw [h1]
    simp (disch := omega) only [li_le1, li_le2, li_lt1, li_lt2, li_eq1, li_eq2, li_add1, li_add2, li_sub1, li_sub2, li_mul1, li_mul2, li_div2, nI_leI, nI_ltI, nI_eq, nI_add, nI_sub, nI_mul, nI_div, rI_n, rL_n, rR_n, wI_n, wL_n, li_rI, li_rL, li_rR, li_wI, li_wL, b1_s, bs_l, bs_r, oI_e, oL_e, oR_e, wZ_0, wZ_1, wZ_b, if_true, if_false, not_true_eq_false, not_false_eq_true, Nat.le_refl])]
  rfl
theorem sumIn_x {S : St} {k n l : Nat} {lo : Nat → Nat} {f : Nat → Int32} (h1 : gI_ S 49 6 = nI n) (hn : n ≤ 12) (hl : l < 2 ^ 31) (h2 : ∀ p, p < n → aI_ S 50 p = nI (lo p) ∧ lo p ≤ 5) (h3 : ∀ p, p < n → aI_ S k p = f p) : fX5_sumIn k S (nI l) = some (sm32 (fun p => decide (lo p = l)) f n) := by
  unfold fX5_sumIn
  rw [lp_seq' (m := 5000) (s := ((0 : Int32), (0 : Int32))) (body := fun w21 : Int32 × Int32 => bX5_sumIn_5 k S (nI l) w21.1 w21.2) (fun i => (sm32 (fun p => decide (lo p = l)) f i, nI i)) n (r := sm32 (fun p => decide (lo p = l)) f n) rfl (by omega) (fun i hi => by
    have hn' : ¬ n ≤ i := by omega
    obtain ⟨g1, g2⟩ := h2 i hi
    show bX5_sumIn_5 k S (nI l) (sm32 (fun p => decide (lo p = l)) f i) (nI i) = _
    unfold bX5_sumIn_5
    rw [h1]
    simp (disch := omega) only [li_le1, li_le2, li_lt1, li_lt2, li_eq1, li_eq2, li_add1, li_add2, li_sub1, li_sub2, li_mul1, li_mul2, li_div2, nI_leI, nI_ltI, nI_eq, nI_add, nI_sub, nI_mul, nI_div, rI_n, rL_n, rR_n, wI_n, wL_n, li_rI, li_rL, li_rR, li_wI, li_wL, b1_s, bs_l, bs_r, oI_e, oL_e, oR_e, wZ_0, wZ_1, wZ_b, if_true, if_false, not_true_eq_false, not_false_eq_true, hn', g1, h3 i hi, sm32]
    by_cases z : lo i = l <;> simp [z]) (by
    show bX5_sumIn_5 k S (nI l) (sm32 (fun p => decide (lo p = l)) f n) (nI n) = _
    unfold bX5_sumIn_5
    rw [h1]
    simp (disch := omega) only [li_le1, li_le2, li_lt1, li_lt2, li_eq1, li_eq2, li_add1, li_add2, li_sub1, li_sub2, li_mul1, li_mul2, li_div2, nI_leI, nI_ltI, nI_eq, nI_add, nI_sub, nI_mul, nI_div, rI_n, rL_n, rR_n, wI_n, wL_n, li_rI, li_rL, li_rR, li_wI, li_wL, b1_s, bs_l, bs_r, oI_e, oL_e, oR_e, wZ_0, wZ_1, wZ_b, if_true, if_false, not_true_eq_false, not_false_eq_true, Nat.le_refl])]
  rfl
theorem run_x {S : St} {n l : Nat} {lo : Nat → Nat} {d : Nat → Int32} (h1 : gI_ S 49 6 = nI n) (hn : n ≤ 12) (hl : l < 2 ^ 31) (h2 : ∀ p, p < n → aI_ S 50 p = nI (lo p) ∧ lo p ≤ 5) (h3 : ∀ p, p < n → aI_ S 54 p = d p) : fX5_longestRun S (nI l) = some (nI (lng (fun p => decide (lo p = l)) d n)) := by
  unfold fX5_longestRun
  rw [lp_seq' (m := 5000) (s := ((0 : Int32), (0 : Int32), (0 : Int32), (0 : Int32))) (body := fun w21 : Int32 × Int32 × Int32 × Int32 => bX5_longestRun_10 S (nI l) w21.1 w21.2.1 w21.2.2.1 w21.2.2.2) (fun i => (nI (lng (fun p => decide (lo p = l)) d i), nI (abv (fun p => decide (lo p = l)) d i), nI (blw (fun p => decide (lo p = l)) d i), nI i)) n (r := nI (lng (fun p => decide (lo p = l)) d n)) rfl (by omega) (fun i hi => by
    have hn' : ¬ n ≤ i := by omega
    obtain ⟨g1, g2⟩ := h2 i hi
    show bX5_longestRun_10 S (nI l) (nI (lng (fun p => decide (lo p = l)) d i)) (nI (abv (fun p => decide (lo p = l)) d i)) (nI (blw (fun p => decide (lo p = l)) d i)) (nI i) = _
    unfold bX5_longestRun_10
    rw [h1]
    simp (disch := omega) only [li_le1, li_le2, li_lt1, li_lt2, li_eq1, li_eq2, li_add1, li_add2, li_sub1, li_sub2, li_mul1, li_mul2, li_div2, nI_leI, nI_ltI, nI_eq, nI_add, nI_sub, nI_mul, nI_div, rI_n, rL_n, rR_n, wI_n, wL_n, li_rI, li_rL, li_rR, li_wI, li_wL, b1_s, bs_l, bs_r, oI_e, oL_e, oR_e, wZ_0, wZ_1, wZ_b, if_true, if_false, not_true_eq_false, not_false_eq_true, hn', g1, h3 i hi]
    have b1 := abv_le (fun p => decide (lo p = l)) d (i + 1)
    have b2 := blw_le (fun p => decide (lo p = l)) d (i + 1)
    have b3 := lng_le (fun p => decide (lo p = l)) d i
    by_cases z : lo i = l
    · simp only [z, if_true]
      have e1 : (if d i ≤ 0 then some 0 else some (nI (abv (fun p => decide (lo p = l)) d i + 1)) : Option Int32) = some (nI (abv (fun p => decide (lo p = l)) d (i + 1))) := by
        rw [abv]; simp only [z, decide_true, if_true]; split <;> rfl
      have e2 : (if 0 ≤ d i then some 0 else some (nI (blw (fun p => decide (lo p = l)) d i + 1)) : Option Int32) = some (nI (blw (fun p => decide (lo p = l)) d (i + 1))) := by
        rw [blw]; simp only [z, decide_true, if_true]; split <;> rfl
      have e3 : lng (fun p => decide (lo p = l)) d (i + 1) = max (lng (fun p => decide (lo p = l)) d i) (max (abv (fun p => decide (lo p = l)) d (i + 1)) (blw (fun p => decide (lo p = l)) d (i + 1))) := by
        rw [lng]; simp only [z, decide_true, if_true]
      have m1 : max (abv (fun p => decide (lo p = l)) d (i + 1)) (blw (fun p => decide (lo p = l)) d (i + 1)) ≤ i + 1 := Nat.max_le.mpr ⟨b1, b2⟩
      simp only [e1, e2, e3, b1_s, bs_l, bs_r, oI_e, oL_e, oR_e]
      rw [mmax_n (by omega) (by omega), mmax_n (by omega) (by omega)]
    · simp only [z, if_false, lng, abv, blw, decide_false, Bool.false_eq_true]) (by
    show bX5_longestRun_10 S (nI l) (nI (lng (fun p => decide (lo p = l)) d n)) (nI (abv (fun p => decide (lo p = l)) d n)) (nI (blw (fun p => decide (lo p = l)) d n)) (nI n) = _
    unfold bX5_longestRun_10
    rw [h1]
    simp (disch := omega) only [li_le1, li_le2, li_lt1, li_lt2, li_eq1, li_eq2, li_add1, li_add2, li_sub1, li_sub2, li_mul1, li_mul2, li_div2, nI_leI, nI_ltI, nI_eq, nI_add, nI_sub, nI_mul, nI_div, rI_n, rL_n, rR_n, wI_n, wL_n, li_rI, li_rL, li_rR, li_wI, li_wL, b1_s, bs_l, bs_r, oI_e, oL_e, oR_e, wZ_0, wZ_1, wZ_b, if_true, if_false, not_true_eq_false, not_false_eq_true, Nat.le_refl])]
  rfl
/-- the side of the run that goes on -/
def sde (a b : Nat) : Int32 := if 0 < a then 1 else if 0 < b then -1 else 0
theorem findLot_m {S : St} {n l : Nat} {lo gd st nm : Nat → Nat} {ag : Nat → Bool} {dr : Nat → Int32} (hp : Pip S 0 28 22 n lo gd st nm ag dr) (hb : PiB n lo gd st nm dr) (hl : l < 2 ^ 31) : ∃ S', fX12_findLot S (nI l) = some S' ∧ gI_ S' 0 59 = nI (fb_ct (fun p => decide (lo p = l)) n) ∧ gI_ S' 0 60 = sm32 (fun p => decide (lo p = l)) dr n ∧ gI_ S' 0 61 = sm32 (fun p => decide (lo p = l)) (fun p => nI (gd p)) n ∧ gI_ S' 0 62 = sm32 (fun p => decide (lo p = l)) (fun p => zb (ag p)) n ∧ gI_ S' 0 63 = nI (lng (fun p => decide (lo p = l)) dr n) ∧ Fr (fun a b => a == 0 && (decide (59 ≤ b) && decide (b ≤ 63))) S S' := by
  unfold fX12_findLot
  simp only [b1_s, bs_l, bs_r, oI_e, oL_e, oR_e]
  have hn := hb.1
  obtain ⟨c, hc⟩ : ∃ c : Nat → Bool, c = fun p => decide (lo p = l) := ⟨_, rfl⟩
  rw [← hc]
  obtain ⟨S', e, hF, q1, q2, q3, q4, q5⟩ := lp_inv (body := fun w26 : Int32 × Int32 × Int32 × St => bX12_findLot_32 (nI l) w26.1 w26.2.1 w26.2.2.1 w26.2.2.2) (fun i s => s.1 = nI (max (abv c dr i) (blw c dr i)) ∧ s.2.1 = sde (abv c dr i) (blw c dr i) ∧ s.2.2.1 = nI i ∧ Fr (fun a b => a == 0 && (decide (59 ≤ b) && decide (b ≤ 63))) S s.2.2.2 ∧ gI_ s.2.2.2 0 59 = nI (fb_ct c i) ∧ gI_ s.2.2.2 0 60 = sm32 c dr i ∧ gI_ s.2.2.2 0 61 = sm32 c (fun p => nI (gd p)) i ∧ gI_ s.2.2.2 0 62 = sm32 c (fun p => zb (ag p)) i ∧ gI_ s.2.2.2 0 63 = nI (lng c dr i)) (fun r => Fr (fun a b => a == 0 && (decide (59 ≤ b) && decide (b ≤ 63))) S r ∧ gI_ r 0 59 = nI (fb_ct c n) ∧ gI_ r 0 60 = sm32 c dr n ∧ gI_ r 0 61 = sm32 c (fun p => nI (gd p)) n ∧ gI_ r 0 62 = sm32 c (fun p => zb (ag p)) n ∧ gI_ r 0 63 = nI (lng c dr n)) n (m := 5000) (s := (0, 0, 0, pI_ (pI_ (pI_ (pI_ (pI_ S 0 59 0) 0 60 0) 0 61 0) 0 62 0) 0 63 0)) (by omega) ⟨rfl, rfl, rfl, Fr.pI (by simp) (Fr.pI (by simp) (Fr.pI (by simp) (Fr.pI (by simp) (Fr.pI (by simp) (Fr.refl _ _))))), by simp [gI_pI, gI_pL, gI_pA, gI_pB, gI_pR, gI_pW, gL_pI, gL_pL, gL_pA, gL_pB, gL_pR, gL_pW, aI_pI, aI_pL, aI_pA, aI_pB, aI_pR, aI_pW, aL_pI, aL_pL, aL_pA, aL_pB, aL_pR, aL_pW, gR_pI, gR_pL, gR_pA, gR_pB, gR_pR, gR_pW]; rfl, by simp [gI_pI, gI_pL, gI_pA, gI_pB, gI_pR, gI_pW, gL_pI, gL_pL, gL_pA, gL_pB, gL_pR, gL_pW, aI_pI, aI_pL, aI_pA, aI_pB, aI_pR, aI_pW, aL_pI, aL_pL, aL_pA, aL_pB, aL_pR, aL_pW, gR_pI, gR_pL, gR_pA, gR_pB, gR_pR, gR_pW]; rfl, by simp [gI_pI, gI_pL, gI_pA, gI_pB, gI_pR, gI_pW, gL_pI, gL_pL, gL_pA, gL_pB, gL_pR, gL_pW, aI_pI, aI_pL, aI_pA, aI_pB, aI_pR, aI_pW, aL_pI, aL_pL, aL_pA, aL_pB, aL_pR, aL_pW, gR_pI, gR_pL, gR_pA, gR_pB, gR_pR, gR_pW]; rfl, by simp [gI_pI, gI_pL, gI_pA, gI_pB, gI_pR, gI_pW, gL_pI, gL_pL, gL_pA, gL_pB, gL_pR, gL_pW, aI_pI, aI_pL, aI_pA, aI_pB, aI_pR, aI_pW, aL_pI, aL_pL, aL_pA, aL_pB, aL_pR, aL_pW, gR_pI, gR_pL, gR_pA, gR_pB, gR_pR, gR_pW]; rfl, by simp [gI_pI, gI_pL, gI_pA, gI_pB, gI_pR, gI_pW, gL_pI, gL_pL, gL_pA, gL_pB, gL_pR, gL_pW, aI_pI, aI_pL, aI_pA, aI_pB, aI_pR, aI_pW, aL_pI, aL_pL, aL_pA, aL_pB, aL_pR, aL_pW, gR_pI, gR_pL, gR_pA, gR_pB, gR_pR, gR_pW]; rfl⟩
    (fun i s hi ⟨h1, h2, h3, h4, h5, h6, h7, h8, h9⟩ => by
      have hn' : ¬ n ≤ i := by omega
      have g0 : gI_ s.2.2.2 0 28 = nI n := by rw [h4.gI (by simp)]; exact hp.1
      obtain ⟨f1, f2, f3, f4, f5, f6⟩ := hp.2 i hi
      obtain ⟨b1, b2, b3, b4, b5, b6⟩ := hb.2 i hi
      have g1 : aI_ s.2.2.2 22 i = nI (lo i) := by rw [h4.aI (by simp)]; exact f1
      have g2 : aI_ s.2.2.2 23 i = nI (gd i) := by rw [h4.aI (by simp)]; exact f2
      have g3 : aI_ s.2.2.2 24 i = zb (ag i) := by rw [h4.aI (by simp)]; exact f3
      have g5 : aI_ s.2.2.2 26 i = dr i := by rw [h4.aI (by simp)]; exact f5
      left
      unfold bX12_findLot_32
      rw [h1, h2, h3, g0]
      simp (disch := omega) only [li_le1, li_le2, li_lt1, li_lt2, li_eq1, li_eq2, li_add1, li_add2, li_sub1, li_sub2, li_mul1, li_mul2, li_div2, nI_leI, nI_ltI, nI_eq, nI_add, nI_sub, nI_mul, nI_div, rI_n, rL_n, rR_n, wI_n, wL_n, li_rI, li_rL, li_rR, li_wI, li_wL, b1_s, bs_l, bs_r, oI_e, oL_e, oR_e, wZ_0, wZ_1, wZ_b, if_true, if_false, not_true_eq_false, not_false_eq_true, hn', g1]
      by_cases z : lo i = l
      · have cz : c i = true := by rw [hc]; simp [z]
        have a1 := abv_le c dr i
        have a2 := blw_le c dr i
        have a3 := lng_le c dr i
        have a4 := abv_blw c dr i
        have e4 : (if ag i = false then some 0 else some 1 : Option Int32) = some (zb (ag i)) := by cases ag i <;> rfl
        have now : ∃ w, (if dr i ≤ 0 then (if 0 ≤ dr i then some 0 else some (-1)) else some 1 : Option Int32) = some w ∧ w = sde (abv c dr (i + 1)) (blw c dr (i + 1)) ∧ (if w = 0 then some 0 else if w = sde (abv c dr i) (blw c dr i) then some (nI (max (abv c dr i) (blw c dr i) + 1)) else some 1 : Option Int32) = some (nI (max (abv c dr (i + 1)) (blw c dr (i + 1)))) := by
          rw [abv, blw, if_pos cz, if_pos cz]
          by_cases d1 : dr i ≤ 0
          · by_cases d2 : 0 ≤ dr i
            · exact ⟨0, by rw [if_pos d1, if_pos d2], by rw [if_pos d1, if_pos d2]; rfl, by rw [if_pos d1, if_pos d2]; rfl⟩
            · refine ⟨-1, by rw [if_pos d1, if_neg d2], by rw [if_pos d1, if_neg d2]; simp [sde], ?_⟩
              rw [if_pos d1, if_neg d2, if_neg (by decide)]
              by_cases y : blw c dr i = 0
              · have : ¬ (-1 : Int32) = sde (abv c dr i) (blw c dr i) := by
                  unfold sde
                  rw [y]
                  by_cases y2 : 0 < abv c dr i
                  · rw [if_pos y2]; decide
                  · rw [if_neg y2, if_neg (by omega)]; decide
                rw [if_neg this, y]; rfl
              · have y2 : abv c dr i = 0 := by omega
                have : (-1 : Int32) = sde (abv c dr i) (blw c dr i) := by
                  unfold sde
                  rw [if_neg (by omega), if_pos (by omega)]
                rw [if_pos this, y2, Nat.zero_max, Nat.zero_max]
          · have d2 : 0 ≤ dr i := Int32.le_of_lt (fa_of_nle d1)
            refine ⟨1, by rw [if_neg d1], by rw [if_neg d1, if_pos d2]; simp [sde], ?_⟩
            rw [if_neg d1, if_pos d2, if_neg (by decide)]
            by_cases y : abv c dr i = 0
            · have : ¬ (1 : Int32) = sde (abv c dr i) (blw c dr i) := by
                unfold sde
                rw [y, if_neg (by omega)]
                by_cases y2 : 0 < blw c dr i
                · rw [if_pos y2]; decide
                · rw [if_neg y2]; decide
              rw [if_neg this, y]; rfl
            · have y2 : blw c dr i = 0 := by omega
              have : (1 : Int32) = sde (abv c dr i) (blw c dr i) := by
                unfold sde
                rw [if_pos (by omega)]
              rw [if_pos this, y2, Nat.max_zero, Nat.max_zero]
        obtain ⟨w, w1, w2, w3⟩ := now
        have ge : ∀ S, fX12_greatest S (nI (lng c dr i)) (nI (max (abv c dr (i + 1)) (blw c dr (i + 1)))) = some (nI (lng c dr (i + 1))) := fun S => by
          have m1 : max (abv c dr (i + 1)) (blw c dr (i + 1)) ≤ i + 1 := Nat.max_le.mpr ⟨abv_le c dr (i + 1), blw_le c dr (i + 1)⟩
          rw [greatest_e S (by omega) (by omega), lng, if_pos cz]
        simp only [z, if_true, g5]
        rw [w1]
        simp (disch := omega) only [li_le1, li_le2, li_lt1, li_lt2, li_eq1, li_eq2, li_add1, li_add2, li_sub1, li_sub2, li_mul1, li_mul2, li_div2, nI_leI, nI_ltI, nI_eq, nI_add, nI_sub, nI_mul, nI_div, rI_n, rL_n, rR_n, wI_n, wL_n, li_rI, li_rL, li_rR, li_wI, li_wL, b1_s, bs_l, bs_r, oI_e, oL_e, oR_e, wZ_0, wZ_1, wZ_b, if_true, if_false, not_true_eq_false, not_false_eq_true, gI_pI, gI_pL, gI_pA, gI_pB, gI_pR, gI_pW, gL_pI, gL_pL, gL_pA, gL_pB, gL_pR, gL_pW, aI_pI, aI_pL, aI_pA, aI_pB, aI_pR, aI_pW, aL_pI, aL_pL, aL_pA, aL_pB, aL_pR, aL_pW, gR_pI, gR_pL, gR_pA, gR_pB, gR_pR, gR_pW, g5, g2, g3, h5, h6, h7, h8, h9, Nat.reduceEqDiff, and_false, e4, zb_0, w3, ge]
        refine ⟨_, rfl, rfl, w2, rfl, Fr.pI (by simp) (Fr.pI (by simp) (Fr.pI (by simp) (Fr.pI (by simp) (Fr.pI (by simp) h4)))), ?_, ?_, ?_, ?_, ?_⟩
        · simp [gI_pI, gI_pL, gI_pA, gI_pB, gI_pR, gI_pW, gL_pI, gL_pL, gL_pA, gL_pB, gL_pR, gL_pW, aI_pI, aI_pL, aI_pA, aI_pB, aI_pR, aI_pW, aL_pI, aL_pL, aL_pA, aL_pB, aL_pR, aL_pW, gR_pI, gR_pL, gR_pA, gR_pB, gR_pR, gR_pW, fb_ct_succ, cz]
        · simp [gI_pI, gI_pL, gI_pA, gI_pB, gI_pR, gI_pW, gL_pI, gL_pL, gL_pA, gL_pB, gL_pR, gL_pW, aI_pI, aI_pL, aI_pA, aI_pB, aI_pR, aI_pW, aL_pI, aL_pL, aL_pA, aL_pB, aL_pR, aL_pW, gR_pI, gR_pL, gR_pA, gR_pB, gR_pR, gR_pW, sm32, cz]
        · simp [gI_pI, gI_pL, gI_pA, gI_pB, gI_pR, gI_pW, gL_pI, gL_pL, gL_pA, gL_pB, gL_pR, gL_pW, aI_pI, aI_pL, aI_pA, aI_pB, aI_pR, aI_pW, aL_pI, aL_pL, aL_pA, aL_pB, aL_pR, aL_pW, gR_pI, gR_pL, gR_pA, gR_pB, gR_pR, gR_pW, sm32, cz]
        · simp [gI_pI, gI_pL, gI_pA, gI_pB, gI_pR, gI_pW, gL_pI, gL_pL, gL_pA, gL_pB, gL_pR, gL_pW, aI_pI, aI_pL, aI_pA, aI_pB, aI_pR, aI_pW, aL_pI, aL_pL, aL_pA, aL_pB, aL_pR, aL_pW, gR_pI, gR_pL, gR_pA, gR_pB, gR_pR, gR_pW, sm32, cz]
        · simp [gI_pI, gI_pL, gI_pA, gI_pB, gI_pR, gI_pW, gL_pI, gL_pL, gL_pA, gL_pB, gL_pR, gL_pW, aI_pI, aI_pL, aI_pA, aI_pB, aI_pR, aI_pW, aL_pI, aL_pL, aL_pA, aL_pB, aL_pR, aL_pW, gR_pI, gR_pL, gR_pA, gR_pB, gR_pR, gR_pW]
      · have cz : c i = false := by rw [hc]; simp [z]
        simp only [z, if_false]
        refine ⟨_, rfl, ?_, ?_, rfl, h4, ?_, ?_, ?_, ?_, ?_⟩
        · simp [abv, blw, cz]
        · simp [abv, blw, cz]
        · rw [h5, fb_ct_succ]; simp [cz]
        · rw [h6]; simp [sm32, cz]
        · rw [h7]; simp [sm32, cz]
        · rw [h8]; simp [sm32, cz]
        · rw [h9]; simp [lng, cz])
    (fun s ⟨h1, h2, h3, h4, h5, h6, h7, h8, h9⟩ => ⟨s.2.2.2, by
      have g0 : gI_ s.2.2.2 0 28 = nI n := by rw [h4.gI (by simp)]; exact hp.1
      unfold bX12_findLot_32
      rw [h3, g0]
      simp (disch := omega) only [li_le1, li_le2, li_lt1, li_lt2, li_eq1, li_eq2, li_add1, li_add2, li_sub1, li_sub2, li_mul1, li_mul2, li_div2, nI_leI, nI_ltI, nI_eq, nI_add, nI_sub, nI_mul, nI_div, rI_n, rL_n, rR_n, wI_n, wL_n, li_rI, li_rL, li_rR, li_wI, li_wL, b1_s, bs_l, bs_r, oI_e, oL_e, oR_e, wZ_0, wZ_1, wZ_b, if_true, if_false, not_true_eq_false, not_false_eq_true, Nat.le_refl], h4, h5, h6, h7, h8, h9⟩)
  rw [e]
  exact ⟨S', rfl, q1, q2, q3, q4, q5, hF⟩
