/-! years of a pipe: years, dated -/
def fyr (b : Nat → Bool) (fr : Nat → Nat) : Nat → Nat
  | 0 => 1800
  | i + 1 => if b i then max (fyr b fr i) (fr i) else fyr b fr i
def lyr (b : Nat → Bool) (to : Nat → Nat) : Nat → Nat
  | 0 => 2000
  | i + 1 => if b i then min (lyr b to i) (to i) else lyr b to i
def brd (b cl : Nat → Bool) : Nat → Bool
  | 0 => false
  | i + 1 => brd b cl i || (b i && cl i)
theorem fyr_b {b : Nat → Bool} {fr : Nat → Nat} (h : ∀ i, i < 8 → 1800 ≤ fr i ∧ fr i ≤ 2000) : ∀ i, i ≤ 8 → 1800 ≤ fyr b fr i ∧ fyr b fr i ≤ 2000 := by
  intro i
  induction i with
  | zero => intro _; exact ⟨Nat.le_refl _, by simp [fyr]⟩
  | succ i ih =>
    intro hi
    have a := ih (by omega)
    have c := h i (by omega)
    rw [fyr]
    split <;> omega
theorem lyr_b {b : Nat → Bool} {to : Nat → Nat} (h : ∀ i, i < 8 → 1800 ≤ to i ∧ to i ≤ 2000) : ∀ i, i ≤ 8 → 1800 ≤ lyr b to i ∧ lyr b to i ≤ 2000 := by
  intro i
  induction i with
  | zero => intro _; exact ⟨by simp [lyr], Nat.le_refl _⟩
  | succ i ih =>
    intro hi
    have a := ih (by omega)
    have c := h i (by omega)
    rw [lyr]
    split <;> omega
theorem brd_mono (b cl : Nat → Bool) : ∀ (j i : Nat), brd b cl i = true → brd b cl (i + j) = true := by
  intro j
  induction j with
  | zero => intro i h; exact h
  | succ j ih =>
    intro i h
    show (brd b cl (i + j) || (b (i + j) && cl (i + j))) = true
    rw [ih i h]; rfl
theorem first_x {S : St} {L : Nat} {st : Int32} {fr : Nat → Nat} (h1 : ∀ i, i < 8 → aI_ S (L + 1) i = nI (fr i)) (h2 : ∀ i, i < 8 → 1800 ≤ fr i ∧ fr i ≤ 2000) : fX3_firstYear L S st = some (nI (fyr (bt st) fr 8)) := by
  unfold fX3_firstYear
  rw [lp_seq' (m := 5000) (s := ((1800 : Int32), (0 : Int32))) (body := fun w21 : Int32 × Int32 => bX3_firstYear_6 L S st w21.1 w21.2) (fun i => (nI (fyr (bt st) fr i), nI i)) 8 (r := nI (fyr (bt st) fr 8)) rfl (by omega) (fun i hi => by
    have hn' : ¬ 8 ≤ i := by omega
    have b1 := fyr_b (b := bt st) h2 i (by omega)
    have b2 := h2 i hi
    show bX3_firstYear_6 L S st (nI (fyr (bt st) fr i)) (nI i) = _
    unfold bX3_firstYear_6
    simp (disch := omega) only [li_le1, li_le2, li_lt1, li_lt2, li_eq1, li_eq2, li_add1, li_add2, li_sub1, li_sub2, li_mul1, li_mul2, li_div2, nI_leI, nI_ltI, nI_eq, nI_add, nI_sub, nI_mul, nI_div, rI_n, rL_n, rR_n, wI_n, wL_n, li_rI, li_rL, li_rR, li_wI, li_wL, b1_s, bs_l, bs_r, oI_e, oL_e, oR_e, wZ_0, wZ_1, wZ_b, if_true, if_false, not_true_eq_false, not_false_eq_true, hn', bit1_i (show i < 32 by omega), i11, h1 i hi, fyr]
    cases bt st i
    · simp
    · simp only [if_true]; rw [mmax_n (by omega) (by omega)]) (by
    show bX3_firstYear_6 L S st (nI (fyr (bt st) fr 8)) (nI 8) = _
    unfold bX3_firstYear_6
    simp (disch := omega) only [li_le1, li_le2, li_lt1, li_lt2, li_eq1, li_eq2, li_add1, li_add2, li_sub1, li_sub2, li_mul1, li_mul2, li_div2, nI_leI, nI_ltI, nI_eq, nI_add, nI_sub, nI_mul, nI_div, rI_n, rL_n, rR_n, wI_n, wL_n, li_rI, li_rL, li_rR, li_wI, li_wL, b1_s, bs_l, bs_r, oI_e, oL_e, oR_e, wZ_0, wZ_1, wZ_b, if_true, if_false, not_true_eq_false, not_false_eq_true, Nat.le_refl])]
  rfl
theorem last_x {S : St} {L : Nat} {st : Int32} {fr : Nat → Nat} (h1 : ∀ i, i < 8 → aI_ S (L + 2) i = nI (fr i)) (h2 : ∀ i, i < 8 → 1800 ≤ fr i ∧ fr i ≤ 2000) : fX3_lastYear L S st = some (nI (lyr (bt st) fr 8)) := by
  unfold fX3_lastYear
  rw [lp_seq' (m := 5000) (s := ((2000 : Int32), (0 : Int32))) (body := fun w21 : Int32 × Int32 => bX3_lastYear_6 L S st w21.1 w21.2) (fun i => (nI (lyr (bt st) fr i), nI i)) 8 (r := nI (lyr (bt st) fr 8)) rfl (by omega) (fun i hi => by
    have hn' : ¬ 8 ≤ i := by omega
    have b1 := lyr_b (b := bt st) h2 i (by omega)
    have b2 := h2 i hi
    show bX3_lastYear_6 L S st (nI (lyr (bt st) fr i)) (nI i) = _
    unfold bX3_lastYear_6
    simp (disch := omega) only [li_le1, li_le2, li_lt1, li_lt2, li_eq1, li_eq2, li_add1, li_add2, li_sub1, li_sub2, li_mul1, li_mul2, li_div2, nI_leI, nI_ltI, nI_eq, nI_add, nI_sub, nI_mul, nI_div, rI_n, rL_n, rR_n, wI_n, wL_n, li_rI, li_rL, li_rR, li_wI, li_wL, b1_s, bs_l, bs_r, oI_e, oL_e, oR_e, wZ_0, wZ_1, wZ_b, if_true, if_false, not_true_eq_false, not_false_eq_true, hn', bit1_i (show i < 32 by omega), i11, h1 i hi, lyr]
    cases bt st i
    · simp
    · simp only [if_true]; rw [mmin_n (by omega) (by omega)]) (by
    show bX3_lastYear_6 L S st (nI (lyr (bt st) fr 8)) (nI 8) = _
    unfold bX3_lastYear_6
    simp (disch := omega) only [li_le1, li_le2, li_lt1, li_lt2, li_eq1, li_eq2, li_add1, li_add2, li_sub1, li_sub2, li_mul1, li_mul2, li_div2, nI_leI, nI_ltI, nI_eq, nI_add, nI_sub, nI_mul, nI_div, rI_n, rL_n, rR_n, wI_n, wL_n, li_rI, li_rL, li_rR, li_wI, li_wL, b1_s, bs_l, bs_r, oI_e, oL_e, oR_e, wZ_0, wZ_1, wZ_b, if_true, if_false, not_true_eq_false, not_false_eq_true, Nat.le_refl])]
  rfl
/-- a stamp clashes with those of a pipe -/
def clb (ba : Nat → Nat) (st : Int32) (i : Nat) : Bool := !(decide (nI (ba i) &&& st = 0))
theorem clash_x {S : St} {L : Nat} {st : Int32} {ba : Nat → Nat} (h1 : ∀ i, i < 8 → aI_ S (L + 3) i = nI (ba i)) : fX3_clash L S st = some (zb (brd (bt st) (clb ba st) 8)) := by
  unfold fX3_clash
  obtain ⟨r, e, hr⟩ := lp_inv (body := fun w21 : Int32 => bX3_clash_2 L S st w21) (fun i s => s = nI i ∧ brd (bt st) (clb ba st) i = false) (fun r => (r = .inl () ∧ brd (bt st) (clb ba st) 8 = false) ∨ (r = .inr 1 ∧ brd (bt st) (clb ba st) 8 = true)) 8 (m := 5000) (s := 0) (by omega) ⟨rfl, rfl⟩
    (fun i s hi ⟨k1, k2⟩ => by
      have hn' : ¬ 8 ≤ i := by omega
      subst k1
      unfold bX3_clash_2
      simp (disch := omega) only [li_le1, li_le2, li_lt1, li_lt2, li_eq1, li_eq2, li_add1, li_add2, li_sub1, li_sub2, li_mul1, li_mul2, li_div2, nI_leI, nI_ltI, nI_eq, nI_add, nI_sub, nI_mul, nI_div, rI_n, rL_n, rR_n, wI_n, wL_n, li_rI, li_rL, li_rR, li_wI, li_wL, b1_s, bs_l, bs_r, oI_e, oL_e, oR_e, wZ_0, wZ_1, wZ_b, if_true, if_false, not_true_eq_false, not_false_eq_true, hn', bit1_i (show i < 32 by omega), i11, h1 i hi]
      cases hb : bt st i with
      | false => exact Or.inl ⟨_, rfl, rfl, by rw [brd, k2, hb]; rfl⟩
      | true =>
        by_cases z : nI (ba i) &&& st = 0
        · exact Or.inl ⟨nI (i + 1), by simp only [if_true, z], rfl, by rw [brd, k2, hb]; simp [clb, z]⟩
        · refine Or.inr ⟨.inr 1, by simp only [if_true, z, if_false], Or.inr ⟨rfl, ?_⟩⟩
          have : brd (bt st) (clb ba st) (i + 1) = true := by rw [brd, k2, hb]; simp [clb, z]
          have := brd_mono (bt st) (clb ba st) (8 - (i + 1)) (i + 1) this
          rw [show i + 1 + (8 - (i + 1)) = 8 by omega] at this
          exact this)
    (fun s ⟨k1, k2⟩ => ⟨.inl (), by
      subst k1
      unfold bX3_clash_2
      simp (disch := omega) only [li_le1, li_le2, li_lt1, li_lt2, li_eq1, li_eq2, li_add1, li_add2, li_sub1, li_sub2, li_mul1, li_mul2, li_div2, nI_leI, nI_ltI, nI_eq, nI_add, nI_sub, nI_mul, nI_div, rI_n, rL_n, rR_n, wI_n, wL_n, li_rI, li_rL, li_rR, li_wI, li_wL, b1_s, bs_l, bs_r, oI_e, oL_e, oR_e, wZ_0, wZ_1, wZ_b, if_true, if_false, not_true_eq_false, not_false_eq_true, Nat.le_refl], Or.inl ⟨rfl, k2⟩⟩)
  rw [e]
  rcases hr with ⟨rfl, z⟩ | ⟨rfl, z⟩
  · rw [z]; rfl
  · rw [z]; rfl
def pYr (a b : Nat) : Bool := a == 0 && (decide (57 ≤ b) && decide (b ≤ 58))
theorem findYears_m {S : St} {p : Nat} {st : Int32} {lim many : Nat} {fr to ba le : Nat → Nat} {sc : Nat → Option Nat} (hl : Lws S 0 46 0 49 29 lim many fr to ba le sc) (hb : LwB lim many fr to ba le sc) (h1 : aI_ S 25 p = st) (hp : p < 12) : ∃ S', fX12_findYears S (nI p) = some S' ∧ gI_ S' 0 57 = nI (fyr (bt st) fr 8) ∧ gI_ S' 0 58 = (if brd (bt st) (clb ba st) 8 then 0 else nI (lyr (bt st) to 8)) ∧ Fr pYr S S' := by
  unfold fX12_findYears
  simp only [b1_s, bs_l, bs_r, oI_e, oL_e, oR_e]
  obtain ⟨r, e, q1, q2, q3, q4⟩ := lp_inv (body := fun w23 : Int32 × Int32 × St => bX12_findYears_18 (nI p) w23.1 w23.2.1 w23.2.2) (fun i s => s.1 = zb (brd (bt st) (clb ba st) i) ∧ s.2.1 = nI i ∧ gI_ s.2.2 0 57 = nI (fyr (bt st) fr i) ∧ gI_ s.2.2 0 58 = nI (lyr (bt st) to i) ∧ Fr pYr S s.2.2) (fun r => r.1 = zb (brd (bt st) (clb ba st) 8) ∧ gI_ r.2 0 57 = nI (fyr (bt st) fr 8) ∧ gI_ r.2 0 58 = nI (lyr (bt st) to 8) ∧ Fr pYr S r.2) 8 (m := 5000) (s := (0, 0, pI_ (pI_ S 0 57 1800) 0 58 2000)) (by omega) ⟨rfl, rfl, by simp [gI_pI, gI_pL, gI_pA, gI_pB, gI_pR, gI_pW, gL_pI, gL_pL, gL_pA, gL_pB, gL_pR, gL_pW, aI_pI, aI_pL, aI_pA, aI_pB, aI_pR, aI_pW, aL_pI, aL_pL, aL_pA, aL_pB, aL_pR, aL_pW, gR_pI, gR_pL, gR_pA, gR_pB, gR_pR, gR_pW]; rfl, by simp [gI_pI, gI_pL, gI_pA, gI_pB, gI_pR, gI_pW, gL_pI, gL_pL, gL_pA, gL_pB, gL_pR, gL_pW, aI_pI, aI_pL, aI_pA, aI_pB, aI_pR, aI_pW, aL_pI, aL_pL, aL_pA, aL_pB, aL_pR, aL_pW, gR_pI, gR_pL, gR_pA, gR_pB, gR_pR, gR_pW]; rfl, Fr.pI rfl (Fr.pI rfl (Fr.refl _ _))⟩
    (fun i s hi ⟨k1, k2, k3, k4, k5⟩ => by
      have hn' : ¬ 8 ≤ i := by omega
      obtain ⟨f1, f2, f3, f4, f5⟩ := hl.2.2 i hi
      obtain ⟨b1, b2, b3, b4⟩ := hb.2.2.2 i hi
      have c1 := fyr_b (b := bt st) (fun i hi => (hb.2.2.2 i hi).1) i (by omega)
      have c2 := lyr_b (b := bt st) (fun i hi => (hb.2.2.2 i hi).2.1) i (by omega)
      have g1 : aI_ s.2.2 25 p = st := by rw [k5.aI rfl]; exact h1
      have g2 : aI_ s.2.2 29 i = nI (fr i) := by rw [k5.aI rfl]; exact f1
      have g3 : aI_ s.2.2 30 i = nI (to i) := by rw [k5.aI rfl]; exact f2
      have g4 : aI_ s.2.2 31 i = nI (ba i) := by rw [k5.aI rfl]; exact f3
      left
      unfold bX12_findYears_18
      rw [k1, k2]
      have ge : ∀ S, fX12_greatest S (nI (fyr (bt st) fr i)) (nI (fr i)) = some (nI (max (fyr (bt st) fr i) (fr i))) := fun S => greatest_e S (by omega) (by omega)
      have lee : ∀ S, fX12_least S (nI (lyr (bt st) to i)) (nI (to i)) = some (nI (min (lyr (bt st) to i) (to i))) := fun S => least_e S (by omega) (by omega)
      simp (disch := omega) only [li_le1, li_le2, li_lt1, li_lt2, li_eq1, li_eq2, li_add1, li_add2, li_sub1, li_sub2, li_mul1, li_mul2, li_div2, nI_leI, nI_ltI, nI_eq, nI_add, nI_sub, nI_mul, nI_div, rI_n, rL_n, rR_n, wI_n, wL_n, li_rI, li_rL, li_rR, li_wI, li_wL, b1_s, bs_l, bs_r, oI_e, oL_e, oR_e, wZ_0, wZ_1, wZ_b, if_true, if_false, not_true_eq_false, not_false_eq_true, hn', bit1_i (show i < 32 by omega), i11, g1, g2, g3, g4, k3, k4, ge, lee, gI_pI, gI_pL, gI_pA, gI_pB, gI_pR, gI_pW, gL_pI, gL_pL, gL_pA, gL_pB, gL_pR, gL_pW, aI_pI, aI_pL, aI_pA, aI_pB, aI_pR, aI_pW, aL_pI, aL_pL, aL_pA, aL_pB, aL_pR, aL_pW, gR_pI, gR_pL, gR_pA, gR_pB, gR_pR, gR_pW, Nat.reduceEqDiff, and_false, zb_0]
      cases hbt : bt st i with
      | false =>
        refine ⟨_, rfl, ?_, rfl, ?_, ?_, k5⟩
        · simp [brd, hbt]
        · rw [k3, fyr, hbt]; rfl
        · rw [k4, lyr, hbt]; rfl
      | true =>
        have F : Fr pYr S (pI_ (pI_ s.2.2 0 57 (nI (max (fyr (bt st) fr i) (fr i)))) 0 58 (nI (min (lyr (bt st) to i) (to i)))) := Fr.pI rfl (Fr.pI rfl k5)
        cases hbr : brd (bt st) (clb ba st) i with
        | false =>
          by_cases z : nI (ba i) &&& st = 0
          · simp only [if_true, z]
            refine ⟨_, rfl, ?_, rfl, ?_, ?_, F⟩
            · simp [brd, hbt, hbr, clb, z, zb]
            · simp [gI_pI, gI_pL, gI_pA, gI_pB, gI_pR, gI_pW, gL_pI, gL_pL, gL_pA, gL_pB, gL_pR, gL_pW, aI_pI, aI_pL, aI_pA, aI_pB, aI_pR, aI_pW, aL_pI, aL_pL, aL_pA, aL_pB, aL_pR, aL_pW, gR_pI, gR_pL, gR_pA, gR_pB, gR_pR, gR_pW, fyr, hbt]
            · simp [gI_pI, gI_pL, gI_pA, gI_pB, gI_pR, gI_pW, gL_pI, gL_pL, gL_pA, gL_pB, gL_pR, gL_pW, aI_pI, aI_pL, aI_pA, aI_pB, aI_pR, aI_pW, aL_pI, aL_pL, aL_pA, aL_pB, aL_pR, aL_pW, gR_pI, gR_pL, gR_pA, gR_pB, gR_pR, gR_pW, lyr, hbt]
          · simp only [if_true, z, if_false]
            refine ⟨_, rfl, ?_, rfl, ?_, ?_, F⟩
            · simp [brd, hbt, hbr, clb, z, zb]
            · simp [gI_pI, gI_pL, gI_pA, gI_pB, gI_pR, gI_pW, gL_pI, gL_pL, gL_pA, gL_pB, gL_pR, gL_pW, aI_pI, aI_pL, aI_pA, aI_pB, aI_pR, aI_pW, aL_pI, aL_pL, aL_pA, aL_pB, aL_pR, aL_pW, gR_pI, gR_pL, gR_pA, gR_pB, gR_pR, gR_pW, fyr, hbt]
            · simp [gI_pI, gI_pL, gI_pA, gI_pB, gI_pR, gI_pW, gL_pI, gL_pL, gL_pA, gL_pB, gL_pR, gL_pW, aI_pI, aI_pL, aI_pA, aI_pB, aI_pR, aI_pW, aL_pI, aL_pL, aL_pA, aL_pB, aL_pR, aL_pW, gR_pI, gR_pL, gR_pA, gR_pB, gR_pR, gR_pW, lyr, hbt]
        | true =>
          simp only [if_true, Bool.true_eq_false, if_false]
          refine ⟨_, rfl, ?_, rfl, ?_, ?_, F⟩
          · simp [brd, hbr, zb]
          · simp [gI_pI, gI_pL, gI_pA, gI_pB, gI_pR, gI_pW, gL_pI, gL_pL, gL_pA, gL_pB, gL_pR, gL_pW, aI_pI, aI_pL, aI_pA, aI_pB, aI_pR, aI_pW, aL_pI, aL_pL, aL_pA, aL_pB, aL_pR, aL_pW, gR_pI, gR_pL, gR_pA, gR_pB, gR_pR, gR_pW, fyr, hbt]
          · simp [gI_pI, gI_pL, gI_pA, gI_pB, gI_pR, gI_pW, gL_pI, gL_pL, gL_pA, gL_pB, gL_pR, gL_pW, aI_pI, aI_pL, aI_pA, aI_pB, aI_pR, aI_pW, aL_pI, aL_pL, aL_pA, aL_pB, aL_pR, aL_pW, gR_pI, gR_pL, gR_pA, gR_pB, gR_pR, gR_pW, lyr, hbt])
    (fun s ⟨k1, k2, k3, k4, k5⟩ => ⟨(s.1, s.2.2), by
      unfold bX12_findYears_18
      rw [k2]
      simp (disch := omega) only [li_le1, li_le2, li_lt1, li_lt2, li_eq1, li_eq2, li_add1, li_add2, li_sub1, li_sub2, li_mul1, li_mul2, li_div2, nI_leI, nI_ltI, nI_eq, nI_add, nI_sub, nI_mul, nI_div, rI_n, rL_n, rR_n, wI_n, wL_n, li_rI, li_rL, li_rR, li_wI, li_wL, b1_s, bs_l, bs_r, oI_e, oL_e, oR_e, wZ_0, wZ_1, wZ_b, if_true, if_false, not_true_eq_false, not_false_eq_true, Nat.le_refl], k1, k3, k4, k5⟩)
  rw [e]
  simp only [b1_s, bs_l, bs_r, oI_e, oL_e, oR_e, q1, zb_0]
  cases hbr : brd (bt st) (clb ba st) 8 with
  | false =>
    refine ⟨_, rfl, ?_, ?_, Fr.pI rfl q4⟩
    · simp [gI_pI, gI_pL, gI_pA, gI_pB, gI_pR, gI_pW, gL_pI, gL_pL, gL_pA, gL_pB, gL_pR, gL_pW, aI_pI, aI_pL, aI_pA, aI_pB, aI_pR, aI_pW, aL_pI, aL_pL, aL_pA, aL_pB, aL_pR, aL_pW, gR_pI, gR_pL, gR_pA, gR_pB, gR_pR, gR_pW, q2]
    · simp [gI_pI, gI_pL, gI_pA, gI_pB, gI_pR, gI_pW, gL_pI, gL_pL, gL_pA, gL_pB, gL_pR, gL_pW, aI_pI, aI_pL, aI_pA, aI_pB, aI_pR, aI_pW, aL_pI, aL_pL, aL_pA, aL_pB, aL_pR, aL_pW, gR_pI, gR_pL, gR_pA, gR_pB, gR_pR, gR_pW, q3]
  | true =>
    refine ⟨_, rfl, ?_, ?_, Fr.pI rfl q4⟩
    · simp [gI_pI, gI_pL, gI_pA, gI_pB, gI_pR, gI_pW, gL_pI, gL_pL, gL_pA, gL_pB, gL_pR, gL_pW, aI_pI, aI_pL, aI_pA, aI_pB, aI_pR, aI_pW, aL_pI, aL_pL, aL_pA, aL_pB, aL_pR, aL_pW, gR_pI, gR_pL, gR_pA, gR_pB, gR_pR, gR_pW, q2]
    · simp [gI_pI, gI_pL, gI_pA, gI_pB, gI_pR, gI_pW, gL_pI, gL_pL, gL_pA, gL_pB, gL_pR, gL_pW, aI_pI, aI_pL, aI_pA, aI_pB, aI_pR, aI_pW, aL_pI, aL_pL, aL_pA, aL_pB, aL_pR, aL_pW, gR_pI, gR_pL, gR_pA, gR_pB, gR_pR, gR_pW]
theorem keepYr {SX SM S2 : St} (h : Rel_ SX SM) (hf : Fr pYr SM S2) : Rel_ SX S2 := by
  refine h.fr (p := fun _ _ => false) (Fr.refl _ _) hf (fun i _ k j _ => rfl) (fun i hi k j z => ?_)
  match i, hi with
  | 0, _ => simp [plM, Nat.ble_eq] at z; simp [pYr]; omega
  | 1, _ => simp [plM, Nat.ble_eq] at z; simp [pYr]; omega
  | 2, _ => simp [plM, Nat.ble_eq] at z; simp [pYr]; omega
  | 3, _ => simp [plM, Nat.ble_eq] at z; simp [pYr]; omega
  | 4, _ => simp [plM, Nat.ble_eq] at z; simp [pYr]; omega
  | 5, _ => simp [plM, Nat.ble_eq] at z; simp [pYr]; omega
  | 6, _ => simp [plM, Nat.ble_eq] at z; simp [pYr]; omega
theorem yc_e {a b : Nat} (ha : a ≤ 2000) (hb : b ≤ 2000) : mmax_ 0 ((nI a - nI b) + 1) = if b ≤ a then nI (a - b + 1) else 0 := by
  by_cases h : b ≤ a
  · rw [if_pos h, nI_sub h, nI_1]
    exact (mmax_n (a := 0) (by omega) (by omega)).trans (by rw [Nat.zero_max])
  · rw [if_neg h]
    unfold mmax_
    rw [if_neg]
    intro q
    rw [fa_lt] at q
    have e1 : (nI a).toInt = a := nI_toInt (by omega)
    have e2 : (nI b).toInt = b := nI_toInt (by omega)
    have e3 : (1 : Int32).toInt = 1 := by decide
    have e4 : (0 : Int32).toInt = 0 := by decide
    have e5 : (nI a - nI b).toInt = (nI a).toInt - (nI b).toInt := fb_subI (by omega) (by omega)
    have e6 : (nI a - nI b + 1).toInt = (nI a - nI b).toInt + (1 : Int32).toInt := fb_addI (by omega) (by omega)
    omega
theorem sim_years : ∀ (SX SM : St) (a1 a2 : Int32), Rel_ SX SM → ∃ (r : Int32) (S2 : St), fX11_years SX a1 a2 = some r ∧ fX12_years SM a1 a2 = some (r, S2) ∧ Rel_ SX S2 := by
  intro SX SM a1 a2 h
  obtain ⟨hB, hS, hP, hT, hL, hH, hE⟩ := id h
  obtain ⟨n, lo, gd, st, nm, ag, dr, ⟨hn, pb⟩, px, pm⟩ := hP
  obtain ⟨L, D, lim, many, fr, to, ba, le, sc, hl, lb, lx, lm⟩ := hL
  unfold fX11_years fX12_years
  rw [has_p px.1, pm.1, in_e SM a1 0 (nI n - 1) (B := 0) rfl rfl]
  simp only [within_e, (in_e SM a2 0 2 (B := 0) (C := 2) rfl rfl), b1_s, bs_l, bs_r, oI_e, oL_e, oR_e, i10]
  by_cases c1 : 0 ≤ a1 ∧ a1 ≤ nI n - 1
  · obtain ⟨p, hp, rfl⟩ := (in_nat (by omega)).mp c1
    simp only [c1, not_true_eq_false, not_false_eq_true, if_true, if_false, and_self, true_and, and_true, and_false, false_and]
    by_cases c2 : 0 ≤ a2 ∧ a2 ≤ 2
    · obtain ⟨j, hj1, hj2, rfl⟩ := in_rng (a := 0) (b := 2) (by omega) c2 (by omega)
      obtain ⟨f1, f2, f3, f4, f5, f6⟩ := px.2 p hp
      obtain ⟨S2, e0, q1, q2, F⟩ := findYears_m (p := p) lm lb ((pm.2 p hp).2.2.2.1) (by omega)
      have e1 : fX3_clash L SX (nI (st p)) = _ := clash_x (fun i hi => (lx.2.2 i hi).2.2.1)
      have e2 : fX3_firstYear L SX (nI (st p)) = _ := first_x (fun i hi => (lx.2.2 i hi).1) (fun i hi => (lb.2.2.2 i hi).1)
      have e3 : fX3_lastYear L SX (nI (st p)) = _ := last_x (fun i hi => (lx.2.2 i hi).2.1) (fun i hi => (lb.2.2.2 i hi).2.1)
      have b1 := fyr_b (b := bt (nI (st p))) (fun i hi => (lb.2.2.2 i hi).1) 8 (by omega)
      have b2 := lyr_b (b := bt (nI (st p))) (fun i hi => (lb.2.2.2 i hi).2.1) 8 (by omega)
      have K : Rel_ SX S2 := keepYr h F
      unfold fX3_yearCount
      simp only [c2, not_true_eq_false, not_false_eq_true, if_true, if_false, and_self, true_and, and_true, and_false, false_and, okL_e hl]
      simp (disch := omega) only [li_le1, li_le2, li_lt1, li_lt2, li_eq1, li_eq2, li_add1, li_add2, li_sub1, li_sub2, li_mul1, li_mul2, li_div2, nI_leI, nI_ltI, nI_eq, nI_add, nI_sub, nI_mul, nI_div, rI_n, rL_n, rR_n, wI_n, wL_n, li_rI, li_rL, li_rR, li_wI, li_wL, b1_s, bs_l, bs_r, oI_e, oL_e, oR_e, wZ_0, wZ_1, wZ_b, if_true, if_false, not_true_eq_false, not_false_eq_true, f4, e0, e1, e2, e3, q1, q2, zb_0]
      generalize fyr (bt (nI (st p))) fr 8 = fy at *
      generalize lyr (bt (nI (st p))) to 8 = ly at *
      cases hbr : brd (bt (nI (st p))) (clb ba (nI (st p))) 8 with
      | true =>
        have z : ¬ nI fy ≤ 0 := nI_nle (by omega) (by omega)
        simp only [Bool.true_eq_false, if_false, if_true, z, b1_s, bs_l, bs_r, oI_e, oL_e, oR_e]
        obtain rfl | rfl | rfl : j = 0 ∨ j = 1 ∨ j = 2 := by omega
        all_goals exact ⟨_, _, rfl, rfl, K⟩
      | false =>
        simp only [if_true, Bool.false_eq_true, if_false, yc_e b2.2 b1.2, b1_s, bs_l, bs_r, oI_e, oL_e, oR_e]
        by_cases z : fy ≤ ly
        · simp (disch := omega) only [li_le1, li_le2, li_lt1, li_lt2, li_eq1, li_eq2, li_add1, li_add2, li_sub1, li_sub2, li_mul1, li_mul2, li_div2, nI_leI, nI_ltI, nI_eq, nI_add, nI_sub, nI_mul, nI_div, rI_n, rL_n, rR_n, wI_n, wL_n, li_rI, li_rL, li_rR, li_wI, li_wL, b1_s, bs_l, bs_r, oI_e, oL_e, oR_e, wZ_0, wZ_1, wZ_b, if_true, if_false, not_true_eq_false, not_false_eq_true, z]
          obtain rfl | rfl | rfl : j = 0 ∨ j = 1 ∨ j = 2 := by omega
          · exact ⟨_, _, rfl, rfl, K⟩
          · simp (disch := omega) only [li_le1, li_le2, li_lt1, li_lt2, li_eq1, li_eq2, li_add1, li_add2, li_sub1, li_sub2, li_mul1, li_mul2, li_div2, nI_leI, nI_ltI, nI_eq, nI_add, nI_sub, nI_mul, nI_div, rI_n, rL_n, rR_n, wI_n, wL_n, li_rI, li_rL, li_rR, li_wI, li_wL, b1_s, bs_l, bs_r, oI_e, oL_e, oR_e, wZ_0, wZ_1, wZ_b, if_true, if_false, not_true_eq_false, not_false_eq_true, show ¬ ly - fy + 1 = 0 by omega]
            exact ⟨_, _, rfl, rfl, K⟩
          · simp (disch := omega) only [li_le1, li_le2, li_lt1, li_lt2, li_eq1, li_eq2, li_add1, li_add2, li_sub1, li_sub2, li_mul1, li_mul2, li_div2, nI_leI, nI_ltI, nI_eq, nI_add, nI_sub, nI_mul, nI_div, rI_n, rL_n, rR_n, wI_n, wL_n, li_rI, li_rL, li_rR, li_wI, li_wL, b1_s, bs_l, bs_r, oI_e, oL_e, oR_e, wZ_0, wZ_1, wZ_b, if_true, if_false, not_true_eq_false, not_false_eq_true, show ¬ ly - fy + 1 = 0 by omega]
            exact ⟨_, _, rfl, rfl, K⟩
        · simp (disch := omega) only [li_le1, li_le2, li_lt1, li_lt2, li_eq1, li_eq2, li_add1, li_add2, li_sub1, li_sub2, li_mul1, li_mul2, li_div2, nI_leI, nI_ltI, nI_eq, nI_add, nI_sub, nI_mul, nI_div, rI_n, rL_n, rR_n, wI_n, wL_n, li_rI, li_rL, li_rR, li_wI, li_wL, b1_s, bs_l, bs_r, oI_e, oL_e, oR_e, wZ_0, wZ_1, wZ_b, if_true, if_false, not_true_eq_false, not_false_eq_true, z]
          obtain rfl | rfl | rfl : j = 0 ∨ j = 1 ∨ j = 2 := by omega
          all_goals exact ⟨_, _, rfl, rfl, K⟩
    · exact ⟨-1, SM, by simp only [c2, not_true_eq_false, not_false_eq_true, if_true, if_false, and_self, true_and, and_true, and_false, false_and], by simp only [c2, not_true_eq_false, not_false_eq_true, if_true, if_false, and_self, true_and, and_true, and_false, false_and], h⟩
  · exact ⟨-1, SM, by simp only [c1, not_true_eq_false, not_false_eq_true, if_true, if_false, and_self, true_and, and_true, and_false, false_and], by simp only [c1, not_true_eq_false, not_false_eq_true, if_true, if_false, and_self, true_and, and_true, and_false, false_and], h⟩
/-- is a year one of a pipe's -/
def ofy (fr to ba st : Nat → Nat) (year p : Nat) : Bool := !(brd (bt (nI (st p))) (clb ba (nI (st p))) 8) && (decide (fyr (bt (nI (st p))) fr 8 ≤ year) && decide (year ≤ lyr (bt (nI (st p))) to 8))
theorem sim_dated : ∀ (SX SM : St) (a1 : Int32), Rel_ SX SM → ∃ (r : Int32) (S2 : St), fX11_dated SX a1 = some r ∧ fX12_dated SM a1 = some (r, S2) ∧ Rel_ SX S2 := by
  intro SX SM a1 h
  obtain ⟨hB, hS, hP, hT, hL, hH, hE⟩ := id h
  obtain ⟨n, lo, gd, st, nm, ag, dr, ⟨hn, pb⟩, px, pm⟩ := hP
  obtain ⟨L, D, lim, many, fr, to, ba, le, sc, hl, lb, lx, lm⟩ := hL
  unfold fX11_dated fX12_dated
  simp only [within_e, (in_e SM a1 1800 2000 (B := 1800) (C := 2000) rfl rfl), b1_s, bs_l, bs_r, oI_e, oL_e, oR_e, i10]
  by_cases c1 : 1800 ≤ a1 ∧ a1 ≤ 2000
  · obtain ⟨y, hy1, hy2, rfl⟩ := in_rng (a := 1800) (b := 2000) (by omega) c1 (by omega)
    simp only [c1, not_true_eq_false, not_false_eq_true, if_true, if_false, and_self, true_and, and_true, and_false, false_and]
    have ex : lp (fun w22 : Int32 × Int32 => bX11_dated_19 SX (nI y) w22.1 w22.2) 5000 (0, 0) = some (nI (fb_ct (ofy fr to ba st y) n)) :=
      lp_seq' (m := 5000) (s := ((0 : Int32), (0 : Int32))) (body := fun w22 : Int32 × Int32 => bX11_dated_19 SX (nI y) w22.1 w22.2) (fun i => (nI (fb_ct (ofy fr to ba st y) i), nI i)) n rfl (by omega) (fun i hi => by
        have hn' : ¬ n ≤ i := by omega
        have e1 : fX3_clash L SX (nI (st i)) = _ := clash_x (fun i hi => (lx.2.2 i hi).2.2.1)
        have e2 : fX3_firstYear L SX (nI (st i)) = _ := first_x (fun i hi => (lx.2.2 i hi).1) (fun i hi => (lb.2.2.2 i hi).1)
        have e3 : fX3_lastYear L SX (nI (st i)) = _ := last_x (fun i hi => (lx.2.2 i hi).2.1) (fun i hi => (lb.2.2.2 i hi).2.1)
        have b1 := fyr_b (b := bt (nI (st i))) (fun i hi => (lb.2.2.2 i hi).1) 8 (by omega)
        have b2 := lyr_b (b := bt (nI (st i))) (fun i hi => (lb.2.2.2 i hi).2.1) 8 (by omega)
        show bX11_dated_19 SX (nI y) (nI (fb_ct (ofy fr to ba st y) i)) (nI i) = _
        unfold bX11_dated_19 fX3_mayBeOf
        rw [px.1]
        simp only [okL_e hl, within_e]
        have f4 : aI_ SX 53 i = nI (st i) := (px.2 i hi).2.2.2.1
        simp (disch := omega) only [li_le1, li_le2, li_lt1, li_lt2, li_eq1, li_eq2, li_add1, li_add2, li_sub1, li_sub2, li_mul1, li_mul2, li_div2, nI_leI, nI_ltI, nI_eq, nI_add, nI_sub, nI_mul, nI_div, rI_n, rL_n, rR_n, wI_n, wL_n, li_rI, li_rL, li_rR, li_wI, li_wL, b1_s, bs_l, bs_r, oI_e, oL_e, oR_e, wZ_0, wZ_1, wZ_b, if_true, if_false, not_true_eq_false, not_false_eq_true, hn', f4, e1, e2, e3, zb_0, i10, fb_ct_succ]
        unfold ofy
        cases brd (bt (nI (st i))) (clb ba (nI (st i))) 8 with
        | true => simp [b1_s, bs_l, bs_r, oI_e, oL_e, oR_e]
        | false =>
          by_cases z1 : fyr (bt (nI (st i))) fr 8 ≤ y
          · by_cases z2 : y ≤ lyr (bt (nI (st i))) to 8
            · simp [z1, z2, b1_s, bs_l, bs_r, oI_e, oL_e, oR_e]
            · simp [z1, z2, b1_s, bs_l, bs_r, oI_e, oL_e, oR_e]
          · simp [z1, b1_s, bs_l, bs_r, oI_e, oL_e, oR_e]) (by
        show bX11_dated_19 SX (nI y) (nI (fb_ct (ofy fr to ba st y) n)) (nI n) = _
        unfold bX11_dated_19
        rw [px.1]
        simp (disch := omega) only [li_le1, li_le2, li_lt1, li_lt2, li_eq1, li_eq2, li_add1, li_add2, li_sub1, li_sub2, li_mul1, li_mul2, li_div2, nI_leI, nI_ltI, nI_eq, nI_add, nI_sub, nI_mul, nI_div, rI_n, rL_n, rR_n, wI_n, wL_n, li_rI, li_rL, li_rR, li_wI, li_wL, b1_s, bs_l, bs_r, oI_e, oL_e, oR_e, wZ_0, wZ_1, wZ_b, if_true, if_false, not_true_eq_false, not_false_eq_true, Nat.le_refl])
    obtain ⟨r, em, hr, F⟩ := lp_inv (body := fun w22 : Int32 × Int32 × St => bX12_dated_20 (nI y) w22.1 w22.2.1 w22.2.2) (fun i s => s.1 = nI (fb_ct (ofy fr to ba st y) i) ∧ s.2.1 = nI i ∧ Fr pYr SM s.2.2) (fun r => r.1 = nI (fb_ct (ofy fr to ba st y) n) ∧ Fr pYr SM r.2) n (m := 5000) (s := (0, 0, SM)) (by omega) ⟨rfl, rfl, Fr.refl _ _⟩
      (fun i s hi ⟨k1, k2, k3⟩ => by
        have hn' : ¬ n ≤ i := by omega
        have g0 : gI_ s.2.2 0 28 = nI n := by rw [k3.gI rfl]; exact pm.1
        obtain ⟨S2, e0, q1, q2, F⟩ := findYears_m (S := s.2.2) (p := i) (st := nI (st i)) (lm.fr k3 rfl rfl (fun k j z1 z2 => by simp [pYr] <;> omega)) lb (by rw [k3.aI rfl]; exact (pm.2 i hi).2.2.2.1) (by omega)
        have b1 := fyr_b (b := bt (nI (st i))) (fun i hi => (lb.2.2.2 i hi).1) 8 (by omega)
        have b2 := lyr_b (b := bt (nI (st i))) (fun i hi => (lb.2.2.2 i hi).2.1) 8 (by omega)
        left
        unfold bX12_dated_20
        rw [k1, k2, g0]
        have ein := in_e S2 (nI y) (gI_ S2 0 57) (gI_ S2 0 58) rfl rfl
        simp (disch := omega) only [li_le1, li_le2, li_lt1, li_lt2, li_eq1, li_eq2, li_add1, li_add2, li_sub1, li_sub2, li_mul1, li_mul2, li_div2, nI_leI, nI_ltI, nI_eq, nI_add, nI_sub, nI_mul, nI_div, rI_n, rL_n, rR_n, wI_n, wL_n, li_rI, li_rL, li_rR, li_wI, li_wL, b1_s, bs_l, bs_r, oI_e, oL_e, oR_e, wZ_0, wZ_1, wZ_b, if_true, if_false, not_true_eq_false, not_false_eq_true, hn', e0, ein]
        simp only [q1, q2, i10]
        rw [fb_ct_succ]
        have F' : Fr pYr SM S2 := k3.trans F
        unfold ofy
        cases brd (bt (nI (st i))) (clb ba (nI (st i))) 8 with
        | true =>
          have z : ¬ nI y ≤ 0 := nI_nle (by omega) (by omega)
          simp only [if_true, z, and_false, not_false_eq_true, Bool.not_true, Bool.false_and, Bool.false_eq_true, if_false]
          exact ⟨_, rfl, rfl, rfl, F'⟩
        | false =>
          simp only [Bool.false_eq_true, if_false, Bool.not_false, Bool.true_and]
          simp (disch := omega) only [li_le1, li_le2, li_lt1, li_lt2, li_eq1, li_eq2, li_add1, li_add2, li_sub1, li_sub2, li_mul1, li_mul2, li_div2, nI_leI, nI_ltI, nI_eq, nI_add, nI_sub, nI_mul, nI_div, rI_n, rL_n, rR_n, wI_n, wL_n, li_rI, li_rL, li_rR, li_wI, li_wL, b1_s, bs_l, bs_r, oI_e, oL_e, oR_e, wZ_0, wZ_1, wZ_b, if_true, if_false, not_true_eq_false, not_false_eq_true]
          by_cases z1 : fyr (bt (nI (st i))) fr 8 ≤ y
          · by_cases z2 : y ≤ lyr (bt (nI (st i))) to 8
            · simp only [z1, z2, not_true_eq_false, not_false_eq_true, if_true, if_false, and_self, true_and, and_true, and_false, false_and, decide_true, Bool.and_self]
              exact ⟨_, rfl, rfl, rfl, F'⟩
            · simp only [z1, z2, not_true_eq_false, not_false_eq_true, if_true, if_false, and_self, true_and, and_true, and_false, false_and, decide_true, decide_false, Bool.and_false, Bool.false_eq_true]
              exact ⟨_, rfl, rfl, rfl, F'⟩
          · simp only [z1, not_true_eq_false, not_false_eq_true, if_true, if_false, and_self, true_and, and_true, and_false, false_and, decide_false, Bool.false_and, Bool.false_eq_true]
            exact ⟨_, rfl, rfl, rfl, F'⟩)
      (fun s ⟨k1, k2, k3⟩ => ⟨(s.1, s.2.2), by
        have g0 : gI_ s.2.2 0 28 = nI n := by rw [k3.gI rfl]; exact pm.1
        unfold bX12_dated_20
        rw [k2, g0]
        simp (disch := omega) only [li_le1, li_le2, li_lt1, li_lt2, li_eq1, li_eq2, li_add1, li_add2, li_sub1, li_sub2, li_mul1, li_mul2, li_div2, nI_leI, nI_ltI, nI_eq, nI_add, nI_sub, nI_mul, nI_div, rI_n, rL_n, rR_n, wI_n, wL_n, li_rI, li_rL, li_rR, li_wI, li_wL, b1_s, bs_l, bs_r, oI_e, oL_e, oR_e, wZ_0, wZ_1, wZ_b, if_true, if_false, not_true_eq_false, not_false_eq_true, Nat.le_refl], k1, k3⟩)
    rw [ex, em]
    exact ⟨_, r.2, rfl, by rw [← hr]; rfl, keepYr h F⟩
  · exact ⟨-1, SM, by simp only [c1, not_true_eq_false, not_false_eq_true, if_true, if_false, and_self, true_and, and_true, and_false, false_and], by simp only [c1, not_true_eq_false, not_false_eq_true, if_true, if_false, and_self, true_and, and_true, and_false, false_and], h⟩
