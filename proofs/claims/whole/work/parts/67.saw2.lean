/-! the saw: a block's mark, what a pipe brings, the best cuts -/
theorem markOf_in {S : St} {mk : Nat → Nat → Bool} {x w r : Nat} {a : Int32} (hx : x + w ≤ 8) (hr : r < 8) (hm : ∀ i, i < w → ∀ b, b < 32 → bt (aI_ S 29 (8 * r + (x + i))) b = mk b (8 * r + (x + i))) : ∃ m, lp (fun w24 : Int32 × Int32 => bX6_markOf_18 S (nI x) (nI w) (nI r) w24.1 w24.2) 5000 (a, nI x) = some m ∧ ∀ b, b < 32 → (bt m b = true ↔ bt a b = true ∧ ∀ i, i < w → mk b (8 * r + (x + i)) = true) := by
  refine lp_inv (body := fun w24 : Int32 × Int32 => bX6_markOf_18 S (nI x) (nI w) (nI r) w24.1 w24.2) (fun i s => ∃ m, s = (m, nI (x + i)) ∧ ∀ b, b < 32 → (bt m b = true ↔ bt a b = true ∧ ∀ i', i' < i → mk b (8 * r + (x + i')) = true)) (fun m => ∀ b, b < 32 → (bt m b = true ↔ bt a b = true ∧ ∀ i, i < w → mk b (8 * r + (x + i)) = true)) w (m := 5000) (s := (a, nI x)) (by omega) ⟨a, rfl, fun b hb => ⟨fun q => ⟨q, fun i hi => absurd hi (by omega)⟩, fun q => q.1⟩⟩ (fun i s hi ⟨m, hs, h1⟩ => ?_) (fun s ⟨m, hs, h1⟩ => ?_)
  · subst hs
    have hn' : ¬ x + w ≤ x + i := by omega
    left
    unfold bX6_markOf_18 fX11_squareAt
    simp (disch := omega) only [li_le1, li_le2, li_lt1, li_lt2, li_eq1, li_eq2, li_add1, li_add2, li_sub1, li_sub2, li_mul1, li_mul2, li_div2, nI_leI, nI_ltI, nI_eq, nI_add, nI_sub, nI_mul, nI_div, rI_n, rL_n, rR_n, wI_n, wL_n, li_rI, li_rL, li_rR, li_wI, li_wL, b1_s, bs_l, bs_r, oI_e, oL_e, oR_e, wZ_0, wZ_1, wZ_b, if_true, if_false, not_true_eq_false, not_false_eq_true, hn', Nat.mul_comm r 8]
    refine ⟨_, rfl, _, rfl, fun b hb => ?_⟩
    rw [b_and, Bool.and_eq_true, h1 b hb, hm i hi b hb]
    constructor
    · intro ⟨⟨q1, q2⟩, q3⟩
      refine ⟨q1, fun i' hi' => ?_⟩
      by_cases e : i' = i
      · rw [e]; exact q3
      · exact q2 i' (by omega)
    · intro ⟨q1, q2⟩
      exact ⟨⟨q1, fun i' hi' => q2 i' (by omega)⟩, q2 i (by omega)⟩
  · subst hs
    refine ⟨m, ?_, h1⟩
    unfold bX6_markOf_18
    rw [nI_add, if_pos (nI_le (Nat.le_refl _) (by omega))]
theorem markOf_x {S : St} {mk : Nat → Nat → Bool} {x y w h : Nat} (hx : x + w ≤ 8) (hy : y + h ≤ 8) (hm : ∀ j, j < h → ∀ i, i < w → ∀ b, b < 32 → bt (aI_ S 29 (8 * (y + j) + (x + i))) b = mk b (8 * (y + j) + (x + i))) : ∃ m, fX6_markOf S (nI x) (nI y) (nI w) (nI h) = some m ∧ ∀ b, b < 32 → bt m b = allB (mk b) x y w h := by
  unfold fX6_markOf
  obtain ⟨m, e, hz⟩ := lp_inv (body := fun w21 : Int32 × Int32 => bX6_markOf_6 S (nI x) (nI y) (nI w) (nI h) w21.1 w21.2) (fun j s => ∃ m, s = (m, nI (y + j)) ∧ ∀ b, b < 32 → (bt m b = true ↔ ∀ j', j' < j → ∀ i, i < w → mk b (8 * (y + j') + (x + i)) = true)) (fun m => ∀ b, b < 32 → (bt m b = true ↔ ∀ j', j' < h → ∀ i, i < w → mk b (8 * (y + j') + (x + i)) = true)) h (m := 5000) (s := ((-1), nI y)) (by omega) ⟨-1, rfl, fun b hb => ⟨fun _ i hi => absurd hi (by omega), fun _ => b_m1 b hb⟩⟩
    (fun j s hj ⟨m, hs, h1⟩ => by
      subst hs
      have hn' : ¬ y + h ≤ y + j := by omega
      obtain ⟨m', e', h2⟩ := markOf_in (S := S) (mk := mk) (a := m) hx (show y + j < 8 by omega) (hm j hj)
      left
      unfold bX6_markOf_6
      simp (disch := omega) only [li_le1, li_le2, li_lt1, li_lt2, li_eq1, li_eq2, li_add1, li_add2, li_sub1, li_sub2, li_mul1, li_mul2, li_div2, nI_leI, nI_ltI, nI_eq, nI_add, nI_sub, nI_mul, nI_div, rI_n, rL_n, rR_n, wI_n, wL_n, li_rI, li_rL, li_rR, li_wI, li_wL, b1_s, bs_l, bs_r, oI_e, oL_e, oR_e, wZ_0, wZ_1, wZ_b, if_true, if_false, not_true_eq_false, not_false_eq_true, hn', e']
      refine ⟨_, rfl, m', rfl, fun b hb => ?_⟩
      rw [h2 b hb, h1 b hb]
      constructor
      · intro ⟨q1, q2⟩ j' hj'
        by_cases e : j' = j
        · rw [e]; exact q2
        · exact q1 j' (by omega)
      · intro q; exact ⟨fun j' hj' => q j' (by omega), q j (by omega)⟩)
    (fun s ⟨m, hs, h1⟩ => ⟨m, by
      subst hs
      unfold bX6_markOf_6
      rw [nI_add, if_pos (nI_le (Nat.le_refl _) (by omega))], h1⟩)
  rw [e]
  refine ⟨m, rfl, fun b hb => ?_⟩
  have z := hz b hb
  cases hq : bt m b with
  | true => exact (allB_t.mpr (z.mp hq)).symm
  | false =>
    cases hq2 : allB (mk b) x y w h with
    | false => rfl
    | true =>
      have := z.mpr (allB_t.mp hq2)
      rw [hq] at this; cases this
theorem pc4_k : ∀ k, k < 16 → (∀ i, i < 32 → bt (nI k) i = (decide (i < 4) && k.testBit i)) ∧ fb_ct (fun i => k.testBit i) 12 = fb_ct (fun i => k.testBit i) 4 := by decide +kernel
theorem pc4 (S : St) {x : Int32} (h : ∀ i, 4 ≤ i → i < 32 → bt x i = false) : fJ6_bitCount_0f7a4 S x = some (nI (fb_ct (bt x) 4)) := by
  obtain ⟨k, hk, ek⟩ : ∃ k, k < 16 ∧ ∀ i, i < 4 → k.testBit i = bt x i := by
    cases h0 : bt x 0 <;> cases h1 : bt x 1 <;> cases h2 : bt x 2 <;> cases h3 : bt x 3
    · exact ⟨0, by omega, fun i hi => by obtain rfl | rfl | rfl | rfl : i = 0 ∨ i = 1 ∨ i = 2 ∨ i = 3 := by omega
                                         all_goals simp [h0, h1, h2, h3]⟩
    · exact ⟨8, by omega, fun i hi => by obtain rfl | rfl | rfl | rfl : i = 0 ∨ i = 1 ∨ i = 2 ∨ i = 3 := by omega
                                         all_goals (first | (rw [h0]; decide) | (rw [h1]; decide) | (rw [h2]; decide) | (rw [h3]; decide))⟩
    · exact ⟨4, by omega, fun i hi => by obtain rfl | rfl | rfl | rfl : i = 0 ∨ i = 1 ∨ i = 2 ∨ i = 3 := by omega
                                         all_goals (first | (rw [h0]; decide) | (rw [h1]; decide) | (rw [h2]; decide) | (rw [h3]; decide))⟩
    · exact ⟨12, by omega, fun i hi => by obtain rfl | rfl | rfl | rfl : i = 0 ∨ i = 1 ∨ i = 2 ∨ i = 3 := by omega
                                          all_goals (first | (rw [h0]; decide) | (rw [h1]; decide) | (rw [h2]; decide) | (rw [h3]; decide))⟩
    · exact ⟨2, by omega, fun i hi => by obtain rfl | rfl | rfl | rfl : i = 0 ∨ i = 1 ∨ i = 2 ∨ i = 3 := by omega
                                         all_goals (first | (rw [h0]; decide) | (rw [h1]; decide) | (rw [h2]; decide) | (rw [h3]; decide))⟩
    · exact ⟨10, by omega, fun i hi => by obtain rfl | rfl | rfl | rfl : i = 0 ∨ i = 1 ∨ i = 2 ∨ i = 3 := by omega
                                          all_goals (first | (rw [h0]; decide) | (rw [h1]; decide) | (rw [h2]; decide) | (rw [h3]; decide))⟩
    · exact ⟨6, by omega, fun i hi => by obtain rfl | rfl | rfl | rfl : i = 0 ∨ i = 1 ∨ i = 2 ∨ i = 3 := by omega
                                         all_goals (first | (rw [h0]; decide) | (rw [h1]; decide) | (rw [h2]; decide) | (rw [h3]; decide))⟩
    · exact ⟨14, by omega, fun i hi => by obtain rfl | rfl | rfl | rfl : i = 0 ∨ i = 1 ∨ i = 2 ∨ i = 3 := by omega
                                          all_goals (first | (rw [h0]; decide) | (rw [h1]; decide) | (rw [h2]; decide) | (rw [h3]; decide))⟩
    · exact ⟨1, by omega, fun i hi => by obtain rfl | rfl | rfl | rfl : i = 0 ∨ i = 1 ∨ i = 2 ∨ i = 3 := by omega
                                         all_goals (first | (rw [h0]; decide) | (rw [h1]; decide) | (rw [h2]; decide) | (rw [h3]; decide))⟩
    · exact ⟨9, by omega, fun i hi => by obtain rfl | rfl | rfl | rfl : i = 0 ∨ i = 1 ∨ i = 2 ∨ i = 3 := by omega
                                         all_goals (first | (rw [h0]; decide) | (rw [h1]; decide) | (rw [h2]; decide) | (rw [h3]; decide))⟩
    · exact ⟨5, by omega, fun i hi => by obtain rfl | rfl | rfl | rfl : i = 0 ∨ i = 1 ∨ i = 2 ∨ i = 3 := by omega
                                         all_goals (first | (rw [h0]; decide) | (rw [h1]; decide) | (rw [h2]; decide) | (rw [h3]; decide))⟩
    · exact ⟨13, by omega, fun i hi => by obtain rfl | rfl | rfl | rfl : i = 0 ∨ i = 1 ∨ i = 2 ∨ i = 3 := by omega
                                          all_goals (first | (rw [h0]; decide) | (rw [h1]; decide) | (rw [h2]; decide) | (rw [h3]; decide))⟩
    · exact ⟨3, by omega, fun i hi => by obtain rfl | rfl | rfl | rfl : i = 0 ∨ i = 1 ∨ i = 2 ∨ i = 3 := by omega
                                         all_goals (first | (rw [h0]; decide) | (rw [h1]; decide) | (rw [h2]; decide) | (rw [h3]; decide))⟩
    · exact ⟨11, by omega, fun i hi => by obtain rfl | rfl | rfl | rfl : i = 0 ∨ i = 1 ∨ i = 2 ∨ i = 3 := by omega
                                          all_goals (first | (rw [h0]; decide) | (rw [h1]; decide) | (rw [h2]; decide) | (rw [h3]; decide))⟩
    · exact ⟨7, by omega, fun i hi => by obtain rfl | rfl | rfl | rfl : i = 0 ∨ i = 1 ∨ i = 2 ∨ i = 3 := by omega
                                         all_goals (first | (rw [h0]; decide) | (rw [h1]; decide) | (rw [h2]; decide) | (rw [h3]; decide))⟩
    · exact ⟨15, by omega, fun i hi => by obtain rfl | rfl | rfl | rfl : i = 0 ∨ i = 1 ∨ i = 2 ∨ i = 3 := by omega
                                          all_goals (first | (rw [h0]; decide) | (rw [h1]; decide) | (rw [h2]; decide) | (rw [h3]; decide))⟩
  obtain ⟨p1, p2⟩ := pc4_k k hk
  have ex : x = nI k := b_ext (fun i hi => by
    rw [p1 i hi]
    by_cases c : i < 4
    · simp [c, ek i c]
    · simp [c, h i (by omega) hi])
  have e3 : fb_ct (bt x) 4 = fb_ct (fun i => k.testBit i) 4 := fb_ct_cong (fun i hi => (ek i hi).symm)
  rw [e3, ← p2, ex]
  exact pc32_n S (by omega)
/-- the bits of a block's mark -/
def MkB (gr : Nat → Nat) (vc : Nat) (vw : Nat → Nat → Bool) (x y w h : Nat) (m : Int32) : Prop := ∀ b, b < 32 → bt m b = allB (mkb gr vc vw b) x y w h
theorem brings_x {S : St} {n s vc x y w h : Nat} {m : Int32} {gr : Nat → Nat} {vw : Nat → Nat → Bool} {sw sh pr ls : Nat → Nat} {tn : Nat → Bool} (hs : Shp S 21 5 22 n sw sh pr ls tn) (sb : ShB n sw sh pr ls) (hb : GrB gr) (hvc : vc ≤ 4) (h1 : s < n) (hx : x + w ≤ 8) (hy : y + h ≤ 8) (hw : 1 ≤ w) (hh : 1 ≤ h) (hm : MkB gr vc vw x y w h m) (ho : ofSz sw sh tn s w h = true) : fX6_brings S (nI s) m = some (nI (brs gr vc vw sw sh pr ls tn s x y w h)) := by
  have hn := sb.1
  obtain ⟨b1, b2, b3, b4⟩ := sb.2 s h1
  obtain ⟨g1, g2, g3, g4, g5⟩ := hs.2 s h1
  have e1 : allB (mkb gr vc vw (ls s)) x y w h = allB (fun q => decide (ls s ≤ gr q)) x y w h := allB_c hx hy (fun k _ => by
    unfold mkb
    rw [show decide (10 ≤ ls s) = false by simp; omega]
    simp)
  have e2 : ∀ v, allB (mkb gr vc vw (10 + v)) x y w h = (decide (v < vc) && allB (fun q => !vw v q) x y w h) := fun v => by
    by_cases c : v < vc
    · rw [show decide (v < vc) = true by simp [c], Bool.true_and]
      exact allB_c hx hy (fun k hk => by
        unfold mkb
        have := hb k hk
        rw [show decide (10 + v ≤ gr k) = false by simp; omega, show decide (10 ≤ 10 + v) = true by simp, show decide (10 + v < 10 + vc) = true by simp [c], Nat.add_sub_cancel_left]
        simp)
    · rw [show decide (v < vc) = false by simp [c], Bool.false_and]
      cases hq : allB (mkb gr vc vw (10 + v)) x y w h with
      | false => rfl
      | true =>
        have := allB_t.mp hq 0 (by omega) 0 (by omega)
        unfold mkb at this
        have hb' := hb (8 * (y + 0) + (x + 0)) (by omega)
        rw [show decide (10 + v ≤ gr (8 * (y + 0) + (x + 0))) = false from decide_eq_false (by omega), show decide (10 + v < 10 + vc) = false by simp [c]] at this
        simp at this
  unfold fX6_brings brs
  have ebt : bt m (ls s) = allB (fun q => decide (ls s ≤ gr q)) x y w h := by rw [hm _ (by omega), e1]
  rw [rI_n (by omega) (by omega), b1_s, g4, bit1_i (by omega), ebt, ho, Bool.true_and]
  cases hf : allB (fun q => decide (ls s ≤ gr q)) x y w h with
  | false => rfl
  | true =>
    have sh10 : ∀ i, i < 32 → bt (m >>> ((10 : Int32) &&& 31)) i = (decide (i < vc) && allB (fun q => !vw i q) x y w h) := fun i hi => by
      have e := b_sshr 10 (by omega) m hi
      have e' : bt (m >>> ((10 : Int32) &&& 31)) i = if 10 + i < 32 then bt m (10 + i) else bt m 31 := e
      rw [e']
      by_cases c : 10 + i < 32
      · rw [if_pos c, hm _ c, e2]
      · rw [if_neg c, hm 31 (by omega)]
        have := e2 21
        rw [show 10 + 21 = 31 from rfl] at this
        rw [this, show decide (21 < vc) = false by simp; omega, show decide (i < vc) = false by simp; omega]
        rfl
    have cnt := pc4 S (x := m >>> ((10 : Int32) &&& 31)) (fun i hi hi2 => by
      rw [sh10 i hi2, show decide (i < vc) = false by simp; omega]; rfl)
    have ec : fb_ct (bt (m >>> ((10 : Int32) &&& 31))) 4 = fb_ct (fun v => decide (v < vc) && allB (fun q => !vw v q) x y w h) 4 := fb_ct_cong (fun i hi => sh10 i (by omega))
    rw [ec] at cnt
    simp only [if_true, b1_s, bs_l, bs_r, oI_e, oL_e, oR_e]
    rw [if_neg (by decide), rI_n (by omega) (by omega), b1_s, g3, cnt, b1_s, nI_mul]
theorem brs_le {n s vc x y w h : Nat} {gr : Nat → Nat} {vw : Nat → Nat → Bool} {sw sh pr ls : Nat → Nat} {tn : Nat → Bool} (sb : ShB n sw sh pr ls) (h1 : s < n) : brs gr vc vw sw sh pr ls tn s x y w h ≤ 2000 := by
  unfold brs
  split
  · have a := (sb.2 s h1).2.2.1.2
    have b := fb_ct_le (fun v => decide (v < vc) && allB (fun q => !vw v q) x y w h) 4
    exact Nat.le_trans (Nat.mul_le_mul a b) (by decide)
  · omega
theorem pvl_le {n vc x y w h : Nat} {gr : Nat → Nat} {vw : Nat → Nat → Bool} {sw sh pr ls : Nat → Nat} {tn : Nat → Bool} (sb : ShB n sw sh pr ls) : pvl gr vc vw n sw sh pr ls tn x y w h ≤ 2000 := mx0_le (fun s hs => brs_le sb hs)
theorem bstp_le {n vc x y w h : Nat} {gr : Nat → Nat} {vw : Nat → Nat → Bool} {sw sh pr ls : Nat → Nat} {tn : Nat → Bool} (sb : ShB n sw sh pr ls) (hw : 1 ≤ w) (hh : 1 ≤ h) (hw8 : w ≤ 8) (hh8 : h ≤ 8) : bst (pvl gr vc vw n sw sh pr ls tn) x y w h ≤ 128000 := by
  have a := bst_le (pv := pvl gr vc vw n sw sh pr ls tn) (c := 2000) (fun x y w h h1 h2 => by
    have := pvl_le (x := x) (y := y) (w := w) (h := h) (gr := gr) (vc := vc) (vw := vw) (tn := tn) sb
    have q : 1 ≤ w * h := Nat.mul_pos h1 h2
    omega) (w + h) x y w h (Nat.le_refl _) hw hh
  have b : w * h ≤ 64 := Nat.le_trans (Nat.mul_le_mul hw8 hh8) (by decide)
  omega
theorem bestPipe_x {S : St} {n vc x y w h : Nat} {m su : Int32} {gr : Nat → Nat} {vw : Nat → Nat → Bool} {sw sh pr ls : Nat → Nat} {tn : Nat → Bool} (hs : Shp S 21 5 22 n sw sh pr ls tn) (sb : ShB n sw sh pr ls) (hb : GrB gr) (hvc : vc ≤ 4) (hx : x + w ≤ 8) (hy : y + h ≤ 8) (hw : 1 ≤ w) (hh : 1 ≤ h) (hm : MkB gr vc vw x y w h m) (hsu : ∀ s, s < 32 → bt su s = (decide (s < n) && ofSz sw sh tn s w h)) : fX6_bestPipe S su m = some (nI (pvl gr vc vw n sw sh pr ls tn x y w h)) := by
  have hn := sb.1
  unfold fX6_bestPipe pvl
  rw [lp_seq' (m := 5000) (s := ((0 : Int32), (0 : Int32))) (body := fun w21 : Int32 × Int32 => bX6_bestPipe_5 S su m w21.1 w21.2) (fun i => (nI (mx0 (fun s => brs gr vc vw sw sh pr ls tn s x y w h) i), nI i)) n (r := nI (mx0 (fun s => brs gr vc vw sw sh pr ls tn s x y w h) n)) rfl (by omega) (fun i hi => by
    have l1 : mx0 (fun s => brs gr vc vw sw sh pr ls tn s x y w h) i ≤ 2000 := mx0_le (fun s hs' => brs_le sb (by omega))
    have l2 : brs gr vc vw sw sh pr ls tn i x y w h ≤ 2000 := brs_le sb hi
    show bX6_bestPipe_5 S su m (nI (mx0 (fun s => brs gr vc vw sw sh pr ls tn s x y w h) i)) (nI i) = _
    unfold bX6_bestPipe_5
    rw [hs.1, if_neg (nI_ge hi (by omega)), bit1_i (by omega), hsu i (by omega), show decide (i < n) = true by simp [hi], Bool.true_and, mx0]
    cases ho : ofSz sw sh tn i w h with
    | false =>
      have : brs gr vc vw sw sh pr ls tn i x y w h = 0 := by unfold brs; rw [ho]; rfl
      rw [this, Nat.max_zero, nI_1]; rfl
    | true =>
      rw [brings_x hs sb hb hvc hi hx hy hw hh hm ho]
      simp only [if_true, b1_s, bs_l, bs_r, oI_e, oL_e, oR_e]
      rw [mmax_n (by omega) (by omega), nI_1]) (by
    show bX6_bestPipe_5 S su m (nI (mx0 (fun s => brs gr vc vw sw sh pr ls tn s x y w h) n)) (nI n) = _
    unfold bX6_bestPipe_5
    rw [hs.1, if_pos (nI_le (Nat.le_refl _) (by omega))])]
  rfl
/-- the class's place of a block -/
def pl (x y w h : Nat) : Nat := 512 * (w - 1) + 64 * (h - 1) + (8 * y + x)
theorem nI_dn {a c : Nat} {k : Int32} (hk : k = -nI c) (h : c ≤ a) : nI a + k = nI (a - c) := by
  rw [hk, Int32.add_neg_eq_sub, nI_sub h]
theorem bestDown_x {S : St} {x y w h : Nat} {f : Nat → Nat → Nat → Nat → Nat} (hw : 1 ≤ w) (hx : x + w ≤ 8) (hh : 1 ≤ h) (hy : y + h ≤ 8) (hT : ∀ k, 1 ≤ k → k < w → aI_ S 33 (pl x y k h) = nI (f x y k h) ∧ aI_ S 33 (pl (x + k) y (w - k) h) = nI (f (x + k) y (w - k) h)) (hf : ∀ k, 1 ≤ k → k < w → f x y k h ≤ 128000 ∧ f (x + k) y (w - k) h ≤ 128000) : fX6_bestDown S (nI (pl x y w h)) (nI w) = some (nI (mx1 (fun k => f x y k h + f (x + k) y (w - k) h) w)) := by
  unfold fX6_bestDown
  have i1 : nI (pl x y w h) - (nI w - 1) * 512 = nI (pl x y 1 h) := by
    have e1 : nI w - 1 = nI (w - 1) := nI_sub (b := 1) hw
    have e2 : nI (w - 1) * 512 = nI ((w - 1) * 512) := nI_mul _ 512
    rw [e1, e2, nI_sub (by unfold pl; omega)]
    exact congrArg nI (by unfold pl; omega)
  rw [i1]
  obtain ⟨r, e, hr⟩ := lp_inv (body := fun w21 : Int32 × Int32 × Int32 × Int32 => bX6_bestDown_25 S (nI w) w21.1 w21.2.1 w21.2.2.1 w21.2.2.2) (fun i s => s.1 = nI (mx1 (fun k => f x y k h + f (x + k) y (w - k) h) (i + 1)) ∧ s.2.1 = nI (pl x y (i + 1) h) ∧ (i + 1 < w → s.2.2.1 = nI (pl (x + (i + 1)) y (w - (i + 1)) h)) ∧ s.2.2.2 = nI (i + 1)) (fun r => r = nI (mx1 (fun k => f x y k h + f (x + k) y (w - k) h) w)) (w - 1) (m := 5000) (s := (0, nI (pl x y 1 h), nI (pl x y w h) - 512 + 1, 1)) (by omega) ⟨by rw [mx1_1]; rfl, rfl, fun hw2 => by
      have e1 : nI (pl x y w h) - 512 = nI (pl x y w h - 512) := nI_sub (b := 512) (by unfold pl; omega)
      show nI (pl x y w h) - 512 + 1 = _
      rw [e1, nI_1]
      exact congrArg nI (by unfold pl; omega), rfl⟩
    (fun i s hi ⟨k1, k2, k3, k4⟩ => by
      obtain ⟨t1, t2⟩ := hT (i + 1) (by omega) (by omega)
      obtain ⟨u1, u2⟩ := hf (i + 1) (by omega) (by omega)
      have l1 : mx1 (fun k => f x y k h + f (x + k) y (w - k) h) (i + 1) ≤ 256000 := mx1_le (fun k q1 q2 => by have := hf k q1 (by omega); show f x y k h + f (x + k) y (w - k) h ≤ 256000; omega)
      have p1 : pl x y (i + 1) h < 4096 := by unfold pl; omega
      have p2 : pl (x + (i + 1)) y (w - (i + 1)) h < 4096 := by unfold pl; omega
      have st : ∃ v, bX6_bestDown_25 S (nI w) s.1 s.2.1 s.2.2.1 s.2.2.2 = some (.inl (nI (mx1 (fun k => f x y k h + f (x + k) y (w - k) h) (i + 1 + 1)), nI (pl x y (i + 1 + 1) h), v, nI (i + 1 + 1))) ∧ (i + 1 + 1 < w → v = nI (pl (x + (i + 1 + 1)) y (w - (i + 1 + 1)) h)) := by
        unfold bX6_bestDown_25
        rw [k1, k2, k3 (by omega), k4, if_neg (nI_ge (by omega) (by omega)), rI_n p1 (by omega), b1_s, rI_n p2 (by omega), b1_s, t1, t2, nI_add, mx1_s _ (show 1 ≤ i + 1 by omega)]
        have q1 : nI (pl x y (i + 1) h) + 512 = nI (pl x y (i + 1 + 1) h) := by
          have : nI (pl x y (i + 1) h) + 512 = nI (pl x y (i + 1) h + 512) := nI_add _ 512
          rw [this]; exact congrArg nI (by unfold pl; omega)
        have q2 : i + 1 + 1 < w → nI (pl (x + (i + 1)) y (w - (i + 1)) h) + (-511) = nI (pl (x + (i + 1 + 1)) y (w - (i + 1 + 1)) h) := fun hlt => by
          exact (nI_dn (k := -511) (c := 511) rfl (by unfold pl; omega)).trans (congrArg nI (by unfold pl; omega))
        rw [q1, nI_1]
        refine ⟨nI (pl (x + (i + 1)) y (w - (i + 1)) h) + (-511), ?_, q2⟩
        by_cases c : f x y (i + 1) h + f (x + (i + 1)) y (w - (i + 1)) h ≤ mx1 (fun k => f x y k h + f (x + k) y (w - k) h) (i + 1)
        · rw [if_pos (nI_le c (by omega)), Nat.max_eq_left c]
        · rw [if_neg (nI_ge (by omega) (by omega)), Nat.max_eq_right (by omega)]
      obtain ⟨v, e1, e2⟩ := st
      exact Or.inl ⟨_, e1, rfl, rfl, e2, rfl⟩)
    (fun s ⟨k1, k2, k3, k4⟩ => ⟨s.1, by
      unfold bX6_bestDown_25
      rw [k4, show w - 1 + 1 = w by omega, if_pos (nI_le (Nat.le_refl _) (by omega))], by rw [k1, show w - 1 + 1 = w by omega]⟩)
  rw [e, hr]
  rfl
theorem bestAcross_x {S : St} {x y w h : Nat} {f : Nat → Nat → Nat → Nat → Nat} (hw : 1 ≤ w) (hx : x + w ≤ 8) (hh : 1 ≤ h) (hy : y + h ≤ 8) (hT : ∀ k, 1 ≤ k → k < h → aI_ S 33 (pl x y w k) = nI (f x y w k) ∧ aI_ S 33 (pl x (y + k) w (h - k)) = nI (f x (y + k) w (h - k))) (hf : ∀ k, 1 ≤ k → k < h → f x y w k ≤ 128000 ∧ f x (y + k) w (h - k) ≤ 128000) : fX6_bestAcross S (nI (pl x y w h)) (nI h) = some (nI (mx1 (fun k => f x y w k + f x (y + k) w (h - k)) h)) := by
  unfold fX6_bestAcross
  have i1 : nI (pl x y w h) - (nI h - 1) * 64 = nI (pl x y w 1) := by
    have e1 : nI h - 1 = nI (h - 1) := nI_sub (b := 1) hh
    have e2 : nI (h - 1) * 64 = nI ((h - 1) * 64) := nI_mul _ 64
    rw [e1, e2, nI_sub (by unfold pl; omega)]
    exact congrArg nI (by unfold pl; omega)
  rw [i1]
  obtain ⟨r, e, hr⟩ := lp_inv (body := fun w21 : Int32 × Int32 × Int32 × Int32 => bX6_bestAcross_24 S (nI h) w21.1 w21.2.1 w21.2.2.1 w21.2.2.2) (fun i s => s.1 = nI (mx1 (fun k => f x y w k + f x (y + k) w (h - k)) (i + 1)) ∧ s.2.1 = nI (pl x y w (i + 1)) ∧ (i + 1 < h → s.2.2.1 = nI (pl x (y + (i + 1)) w (h - (i + 1)))) ∧ s.2.2.2 = nI (i + 1)) (fun r => r = nI (mx1 (fun k => f x y w k + f x (y + k) w (h - k)) h)) (h - 1) (m := 5000) (s := (0, nI (pl x y w 1), nI (pl x y w h) - 64 + 8, 1)) (by omega) ⟨by rw [mx1_1]; rfl, rfl, fun hw2 => by
      have e1 : nI (pl x y w h) - 64 = nI (pl x y w h - 64) := nI_sub (b := 64) (by unfold pl; omega)
      have e2 : nI (pl x y w h - 64) + 8 = nI (pl x y w h - 64 + 8) := nI_add _ 8
      show nI (pl x y w h) - 64 + 8 = _
      rw [e1, e2]
      exact congrArg nI (by unfold pl; omega), rfl⟩
    (fun i s hi ⟨k1, k2, k3, k4⟩ => by
      obtain ⟨t1, t2⟩ := hT (i + 1) (by omega) (by omega)
      obtain ⟨u1, u2⟩ := hf (i + 1) (by omega) (by omega)
      have l1 : mx1 (fun k => f x y w k + f x (y + k) w (h - k)) (i + 1) ≤ 256000 := mx1_le (fun k q1 q2 => by have := hf k q1 (by omega); show f x y w k + f x (y + k) w (h - k) ≤ 256000; omega)
      have p1 : pl x y w (i + 1) < 4096 := by unfold pl; omega
      have p2 : pl x (y + (i + 1)) w (h - (i + 1)) < 4096 := by unfold pl; omega
      have st : ∃ v, bX6_bestAcross_24 S (nI h) s.1 s.2.1 s.2.2.1 s.2.2.2 = some (.inl (nI (mx1 (fun k => f x y w k + f x (y + k) w (h - k)) (i + 1 + 1)), nI (pl x y w (i + 1 + 1)), v, nI (i + 1 + 1))) ∧ (i + 1 + 1 < h → v = nI (pl x (y + (i + 1 + 1)) w (h - (i + 1 + 1)))) := by
        unfold bX6_bestAcross_24
        rw [k1, k2, k3 (by omega), k4, if_neg (nI_ge (by omega) (by omega)), rI_n p1 (by omega), b1_s, rI_n p2 (by omega), b1_s, t1, t2, nI_add, mx1_s _ (show 1 ≤ i + 1 by omega)]
        have q1 : nI (pl x y w (i + 1)) + 64 = nI (pl x y w (i + 1 + 1)) := by
          have : nI (pl x y w (i + 1)) + 64 = nI (pl x y w (i + 1) + 64) := nI_add _ 64
          rw [this]; exact congrArg nI (by unfold pl; omega)
        have q2 : i + 1 + 1 < h → nI (pl x (y + (i + 1)) w (h - (i + 1))) + (-56) = nI (pl x (y + (i + 1 + 1)) w (h - (i + 1 + 1))) := fun hlt => by
          exact (nI_dn (k := -56) (c := 56) rfl (by unfold pl; omega)).trans (congrArg nI (by unfold pl; omega))
        rw [q1, nI_1]
        refine ⟨nI (pl x (y + (i + 1)) w (h - (i + 1))) + (-56), ?_, q2⟩
        by_cases c : f x y w (i + 1) + f x (y + (i + 1)) w (h - (i + 1)) ≤ mx1 (fun k => f x y w k + f x (y + k) w (h - k)) (i + 1)
        · rw [if_pos (nI_le c (by omega)), Nat.max_eq_left c]
        · rw [if_neg (nI_ge (by omega) (by omega)), Nat.max_eq_right (by omega)]
      obtain ⟨v, e1, e2⟩ := st
      exact Or.inl ⟨_, e1, rfl, rfl, e2, rfl⟩)
    (fun s ⟨k1, k2, k3, k4⟩ => ⟨s.1, by
      unfold bX6_bestAcross_24
      rw [k4, show h - 1 + 1 = h by omega, if_pos (nI_le (Nat.le_refl _) (by omega))], by rw [k1, show h - 1 + 1 = h by omega]⟩)
  rw [e, hr]
  rfl
