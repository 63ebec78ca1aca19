/-! does a block for an order: stored, age -/
def ofSz (sw sh : Nat → Nat) (tn : Nat → Bool) (s w h : Nat) : Bool := (decide (sw s = w) && decide (sh s = h)) || (tn s && decide (sw s = h) && decide (sh s = w))
theorem isOf_x {S : St} {n s w h : Nat} {sw sh pr ls : Nat → Nat} {tn : Nat → Bool} (hs : Shp S 21 5 22 n sw sh pr ls tn) (hb : ShB n sw sh pr ls) (h1 : s < n) (hw : w < 2 ^ 31) (hh : h < 2 ^ 31) : fX7_isOf S (nI s) (nI w) (nI h) = some (zb (ofSz sw sh tn s w h)) := by
  have hn := hb.1
  obtain ⟨b1, b2, b3, b4⟩ := hb.2 s h1
  obtain ⟨g1, g2, g3, g4, g5⟩ := hs.2 s h1
  unfold fX7_isOf
  simp (disch := omega) only [li_le1, li_le2, li_lt1, li_lt2, li_eq1, li_eq2, li_add1, li_add2, li_sub1, li_sub2, li_mul1, li_mul2, li_div2, nI_leI, nI_ltI, nI_eq, nI_add, nI_sub, nI_mul, nI_div, rI_n, rL_n, rR_n, wI_n, wL_n, li_rI, li_rL, li_rR, li_wI, li_wL, b1_s, bs_l, bs_r, oI_e, oL_e, oR_e, wZ_0, wZ_1, wZ_b, if_true, if_false, not_true_eq_false, not_false_eq_true, g1, g2, g5, zb_0]
  unfold ofSz
  by_cases c1 : sw s = w <;> by_cases c2 : sh s = h <;> cases c3 : tn s <;> by_cases c4 : sw s = h <;> by_cases c5 : sh s = w <;> simp [c1, c2, c3, c4, c5, b1_s, bs_l, bs_r, oI_e, oL_e, oR_e, zb] <;> (try simp_all) <;> (try rfl)
theorem isOf_m {S : St} {n s w h : Nat} {sw sh pr ls : Nat → Nat} {tn : Nat → Bool} (hs : Shp S 0 9 6 n sw sh pr ls tn) (hb : ShB n sw sh pr ls) (h1 : s < n) (hw : w < 2 ^ 31) (hh : h < 2 ^ 31) : fX12_isOfSize S (nI s) (nI w) (nI h) = some (zb (ofSz sw sh tn s w h)) := by
  have hn := hb.1
  obtain ⟨b1, b2, b3, b4⟩ := hb.2 s h1
  obtain ⟨g1, g2, g3, g4, g5⟩ := hs.2 s h1
  unfold fX12_isOfSize
  simp (disch := omega) only [li_le1, li_le2, li_lt1, li_lt2, li_eq1, li_eq2, li_add1, li_add2, li_sub1, li_sub2, li_mul1, li_mul2, li_div2, nI_leI, nI_ltI, nI_eq, nI_add, nI_sub, nI_mul, nI_div, rI_n, rL_n, rR_n, wI_n, wL_n, li_rI, li_rL, li_rR, li_wI, li_wL, b1_s, bs_l, bs_r, oI_e, oL_e, oR_e, wZ_0, wZ_1, wZ_b, if_true, if_false, not_true_eq_false, not_false_eq_true, g1, g2, g5, zb_0]
  unfold ofSz
  by_cases c1 : sw s = w <;> by_cases c2 : sh s = h <;> cases c3 : tn s <;> by_cases c4 : sw s = h <;> by_cases c5 : sh s = w <;> simp [c1, c2, c3, c4, c5, b1_s, bs_l, bs_r, oI_e, oL_e, oR_e, zb] <;> (try simp_all) <;> (try rfl)
/-- does block k of the stock for order o -/
def dfr (sw sh ls : Nat → Nat) (tn : Nat → Bool) (kw kh kg ka os oa : Nat → Nat) (k o : Nat) : Bool := ofSz sw sh tn (os o) (kw k) (kh k) && decide (ls (os o) ≤ kg k) && decide (oa o ≤ ka k)
theorem dfr_x {S : St} {ns nk no k o : Nat} {sw sh pr ls : Nat → Nat} {tn : Nat → Bool} {kw kh kg ka os oa op : Nat → Nat} (hs : Shp S 21 5 22 ns sw sh pr ls tn) (hb : ShB ns sw sh pr ls) (hk : Stk S 37 4 38 nk kw kh kg ka) (kb : StB nk kw kh kg ka) (ho : Odr S 42 5 43 no os oa op) (ob : OdB ns no os oa op) (h1 : k < nk) (h2 : o < no) : fX4_doesFor S (nI k) (nI o) = some (zb (dfr sw sh ls tn kw kh kg ka os oa k o)) := by
  have n1 := hb.1
  have n2 := kb.1
  have n3 := ob.1
  obtain ⟨b1, b2, b3, b4⟩ := kb.2 k h1
  obtain ⟨g1, g2, g3, g4⟩ := hk.2 k h1
  obtain ⟨d1, d2, d3, d4⟩ := ob.2 o h2
  obtain ⟨f1, f2, f3⟩ := ho.2 o h2
  obtain ⟨a1, a2, a3, a4⟩ := hb.2 (os o) d1
  obtain ⟨j1, j2, j3, j4, j5⟩ := hs.2 (os o) d1
  unfold fX4_doesFor
  simp (disch := omega) only [li_le1, li_le2, li_lt1, li_lt2, li_eq1, li_eq2, li_add1, li_add2, li_sub1, li_sub2, li_mul1, li_mul2, li_div2, nI_leI, nI_ltI, nI_eq, nI_add, nI_sub, nI_mul, nI_div, rI_n, rL_n, rR_n, wI_n, wL_n, li_rI, li_rL, li_rR, li_wI, li_wL, b1_s, bs_l, bs_r, oI_e, oL_e, oR_e, wZ_0, wZ_1, wZ_b, if_true, if_false, not_true_eq_false, not_false_eq_true, g1, g2, g3, g4, f1, f2, j4, isOf_x hs hb d1 (show kw k < 2 ^ 31 by omega) (show kh k < 2 ^ 31 by omega), zb_0]
  unfold dfr
  cases ofSz sw sh tn (os o) (kw k) (kh k)
  · simp [zb]
  · by_cases c2 : ls (os o) ≤ kg k
    · by_cases c3 : oa o ≤ ka k
      · simp [c2, c3, Nat.not_lt.mpr c2, Nat.not_lt.mpr c3, zb]
      · simp [c2, c3, Nat.not_lt.mpr c2, Nat.lt_of_not_le c3, zb]
    · simp [c2, Nat.lt_of_not_le c2, zb]
theorem dfr_m {S : St} {ns nk no k o : Nat} {sw sh pr ls : Nat → Nat} {tn : Nat → Bool} {kw kh kg ka os oa op : Nat → Nat} (hs : Shp S 0 9 6 ns sw sh pr ls tn) (hb : ShB ns sw sh pr ls) (hk : Stk S 0 17 13 nk kw kh kg ka) (kb : StB nk kw kh kg ka) (ho : Odr S 0 22 17 no os oa op) (ob : OdB ns no os oa op) (h1 : k < nk) (h2 : o < no) : fX12_doesFor S (nI k) (nI o) = some (zb (dfr sw sh ls tn kw kh kg ka os oa k o)) := by
  have n1 := hb.1
  have n2 := kb.1
  have n3 := ob.1
  obtain ⟨b1, b2, b3, b4⟩ := kb.2 k h1
  obtain ⟨g1, g2, g3, g4⟩ := hk.2 k h1
  obtain ⟨d1, d2, d3, d4⟩ := ob.2 o h2
  obtain ⟨f1, f2, f3⟩ := ho.2 o h2
  obtain ⟨a1, a2, a3, a4⟩ := hb.2 (os o) d1
  obtain ⟨j1, j2, j3, j4, j5⟩ := hs.2 (os o) d1
  unfold fX12_doesFor
  simp (disch := omega) only [li_le1, li_le2, li_lt1, li_lt2, li_eq1, li_eq2, li_add1, li_add2, li_sub1, li_sub2, li_mul1, li_mul2, li_div2, nI_leI, nI_ltI, nI_eq, nI_add, nI_sub, nI_mul, nI_div, rI_n, rL_n, rR_n, wI_n, wL_n, li_rI, li_rL, li_rR, li_wI, li_wL, b1_s, bs_l, bs_r, oI_e, oL_e, oR_e, wZ_0, wZ_1, wZ_b, if_true, if_false, not_true_eq_false, not_false_eq_true, g1, g2, g3, g4, f1, f2, j4, isOf_m hs hb d1 (show kw k < 2 ^ 31 by omega) (show kh k < 2 ^ 31 by omega), zb_0]
  unfold dfr
  cases ofSz sw sh tn (os o) (kw k) (kh k)
  · simp [zb]
  · by_cases c2 : ls (os o) ≤ kg k
    · by_cases c3 : oa o ≤ ka k
      · simp [c2, c3, Nat.not_lt.mpr c2, Nat.not_lt.mpr c3, zb]
      · simp [c2, c3, Nat.not_lt.mpr c2, Nat.lt_of_not_le c3, zb]
    · simp [c2, Nat.lt_of_not_le c2, zb]
theorem served_x {S : St} {n k : Nat} {p : Nat → Bool} (h1 : gI_ S 42 5 = nI n) (hn : n ≤ 8) (hp : ∀ o, o < n → fX4_doesFor S (nI k) (nI o) = some (zb (p o))) : fX4_servedBy S (nI k) = some (nI (fb_ct p n)) := by
  unfold fX4_servedBy
  rw [lp_seq' (m := 5000) (s := ((0 : Int32), (0 : Int32))) (body := fun w21 : Int32 × Int32 => bX4_servedBy_4 S (nI k) w21.1 w21.2) (fun i => (nI (fb_ct p i), nI i)) n (r := nI (fb_ct p n)) rfl (by omega) (fun i hi => by
    have hn' : ¬ n ≤ i := by omega
    show bX4_servedBy_4 S (nI k) (nI (fb_ct p i)) (nI i) = _
    unfold bX4_servedBy_4
    rw [h1]
    simp (disch := omega) only [li_le1, li_le2, li_lt1, li_lt2, li_eq1, li_eq2, li_add1, li_add2, li_sub1, li_sub2, li_mul1, li_mul2, li_div2, nI_leI, nI_ltI, nI_eq, nI_add, nI_sub, nI_mul, nI_div, rI_n, rL_n, rR_n, wI_n, wL_n, li_rI, li_rL, li_rR, li_wI, li_wL, b1_s, bs_l, bs_r, oI_e, oL_e, oR_e, wZ_0, wZ_1, wZ_b, if_true, if_false, not_true_eq_false, not_false_eq_true, hn', hp i hi, zb_0, fb_ct_succ]
    cases p i <;> simp) (by
    show bX4_servedBy_4 S (nI k) (nI (fb_ct p n)) (nI n) = _
    unfold bX4_servedBy_4
    rw [h1]
    simp (disch := omega) only [li_le1, li_le2, li_lt1, li_lt2, li_eq1, li_eq2, li_add1, li_add2, li_sub1, li_sub2, li_mul1, li_mul2, li_div2, nI_leI, nI_ltI, nI_eq, nI_add, nI_sub, nI_mul, nI_div, rI_n, rL_n, rR_n, wI_n, wL_n, li_rI, li_rL, li_rR, li_wI, li_wL, b1_s, bs_l, bs_r, oI_e, oL_e, oR_e, wZ_0, wZ_1, wZ_b, if_true, if_false, not_true_eq_false, not_false_eq_true, Nat.le_refl])]
  rfl
theorem served_m {S : St} {n k : Nat} {p : Nat → Bool} (h1 : gI_ S 0 22 = nI n) (hn : n ≤ 8) (hp : ∀ o, o < n → fX12_doesFor S (nI k) (nI o) = some (zb (p o))) : lp (fun w23 : Int32 × Int32 => bX12_stored_35 S (nI k) w23.1 w23.2) 5000 (0, 0) = some (nI (fb_ct p n)) := by
  exact lp_seq' (body := fun w21 : Int32 × Int32 => bX12_stored_35 S (nI k) w21.1 w21.2) (fun i => (nI (fb_ct p i), nI i)) n (r := nI (fb_ct p n)) rfl (by omega) (fun i hi => by
    have hn' : ¬ n ≤ i := by omega
    show bX12_stored_35 S (nI k) (nI (fb_ct p i)) (nI i) = _
    unfold bX12_stored_35
    rw [h1]
    simp (disch := omega) only [li_le1, li_le2, li_lt1, li_lt2, li_eq1, li_eq2, li_add1, li_add2, li_sub1, li_sub2, li_mul1, li_mul2, li_div2, nI_leI, nI_ltI, nI_eq, nI_add, nI_sub, nI_mul, nI_div, rI_n, rL_n, rR_n, wI_n, wL_n, li_rI, li_rL, li_rR, li_wI, li_wL, b1_s, bs_l, bs_r, oI_e, oL_e, oR_e, wZ_0, wZ_1, wZ_b, if_true, if_false, not_true_eq_false, not_false_eq_true, hn', hp i hi, zb_0, fb_ct_succ]
    cases p i <;> simp) (by
    show bX12_stored_35 S (nI k) (nI (fb_ct p n)) (nI n) = _
    unfold bX12_stored_35
    rw [h1]
    simp (disch := omega) only [li_le1, li_le2, li_lt1, li_lt2, li_eq1, li_eq2, li_add1, li_add2, li_sub1, li_sub2, li_mul1, li_mul2, li_div2, nI_leI, nI_ltI, nI_eq, nI_add, nI_sub, nI_mul, nI_div, rI_n, rL_n, rR_n, wI_n, wL_n, li_rI, li_rL, li_rR, li_wI, li_wL, b1_s, bs_l, bs_r, oI_e, oL_e, oR_e, wZ_0, wZ_1, wZ_b, if_true, if_false, not_true_eq_false, not_false_eq_true, Nat.le_refl])
theorem sim_stored : ∀ (SX SM : St) (a1 a2 : Int32), Rel_ SX SM → ∃ (r : Int32), fX11_stored SX a1 a2 = some r ∧ fX12_stored SM a1 a2 = some r ∧ Rel_ SX SM := by
  intro SX SM a1 a2 h
  obtain ⟨hB, hS, hP, hT, hL, hH, hE⟩ := id h
  obtain ⟨ns, sw, sh, pr, ls, tn, ⟨sb, sx, sm⟩, ⟨nk, kw, kh, kg, ka, kb, kx, km⟩, ⟨no, os, oa, op, ob, ox, om⟩⟩ := hS
  have hnk := kb.1
  unfold fX11_stored fX12_stored
  rw [within_e, kx.1, km.1, in_e SM a1 0 (nI nk - 1) (B := 0) rfl rfl]
  simp only [(in_e SM a2 0 4 (B := 0) (C := 4) rfl rfl), b1_s, bs_l, bs_r, oI_e, oL_e, oR_e, i10]
  by_cases c1 : 0 ≤ a1 ∧ a1 ≤ nI nk - 1
  · obtain ⟨k, hk, rfl⟩ := (in_nat (by omega)).mp c1
    obtain ⟨g1, g2, g3, g4⟩ := kx.2 k hk
    obtain ⟨f1, f2, f3, f4⟩ := km.2 k hk
    have e1 := served_x (k := k) ox.1 ob.1 (fun o ho => dfr_x sx sb kx kb ox ob hk ho)
    have e2 := served_m (k := k) om.1 ob.1 (fun o ho => dfr_m sm sb km kb om ob hk ho)
    simp only [c1, not_true_eq_false, not_false_eq_true, if_true, if_false, and_self, true_and, and_true, and_false, false_and, e1, e2, b1_s, bs_l, bs_r, oI_e, oL_e, oR_e]
    by_cases c2 : 0 ≤ a2 ∧ a2 ≤ 4
    · obtain ⟨j, hj1, hj2, rfl⟩ := in_rng (a := 0) (b := 4) (by omega) c2 (by omega)
      simp only [c2, not_true_eq_false, not_false_eq_true, if_true, if_false, and_self, true_and, and_true, and_false, false_and]
      simp (disch := omega) only [li_le1, li_le2, li_lt1, li_lt2, li_eq1, li_eq2, li_add1, li_add2, li_sub1, li_sub2, li_mul1, li_mul2, li_div2, nI_leI, nI_ltI, nI_eq, nI_add, nI_sub, nI_mul, nI_div, rI_n, rL_n, rR_n, wI_n, wL_n, li_rI, li_rL, li_rR, li_wI, li_wL, b1_s, bs_l, bs_r, oI_e, oL_e, oR_e, wZ_0, wZ_1, wZ_b, if_true, if_false, not_true_eq_false, not_false_eq_true, g1, g2, g3, g4, f1, f2, f3, f4]
      obtain rfl | rfl | rfl | rfl | rfl : j = 0 ∨ j = 1 ∨ j = 2 ∨ j = 3 ∨ j = 4 := by omega
      all_goals (refine ⟨_, rfl, rfl, h⟩)
    · have d0 : ¬ a2 = 0 := fun q => c2 (by rw [q]; decide)
      have d1 : ¬ a2 = 1 := fun q => c2 (by rw [q]; decide)
      have d2 : ¬ a2 = 2 := fun q => c2 (by rw [q]; decide)
      have d3 : ¬ a2 = 3 := fun q => c2 (by rw [q]; decide)
      have d4 : ¬ a2 = 4 := fun q => c2 (by rw [q]; decide)
      simp only [c2, not_true_eq_false, not_false_eq_true, if_true, if_false, and_self, true_and, and_true, and_false, false_and, d0, d1, d2, d3, d4]
      exact ⟨-1, rfl, rfl, h⟩
  · exact ⟨-1, by simp only [c1, not_true_eq_false, not_false_eq_true, if_true, if_false, and_self, true_and, and_true, and_false, false_and], by simp only [c1, not_true_eq_false, not_false_eq_true, if_true, if_false, and_self, true_and, and_true, and_false, false_and], h⟩
theorem age_x {S : St} {n : Nat} {kw kh kg ka : Nat → Nat} (hs : Stk S 37 4 38 n kw kh kg ka) (hb : StB n kw kh kg ka) : ∃ S', lp (fun w21 : Int32 × St => bX11_age_2 w21.1 w21.2) 5000 (0, S) = some S' ∧ (∀ q, q < n → aI_ S' 41 q = nI (min 99 (ka q + 1))) ∧ Fr (fun a _ => a == 41) S S' := by
  have hn := hb.1
  obtain ⟨S', hl, hF, hz⟩ := lp_inv (body := fun w21 : Int32 × St => bX11_age_2 w21.1 w21.2) (fun i s => s.1 = nI i ∧ Fr (fun a _ => a == 41) S s.2 ∧ (∀ q, q < i → aI_ s.2 41 q = nI (min 99 (ka q + 1))) ∧ (∀ q, i ≤ q → q < n → aI_ s.2 41 q = nI (ka q))) (fun r => Fr (fun a _ => a == 41) S r ∧ (∀ q, q < n → aI_ r 41 q = nI (min 99 (ka q + 1)))) n (m := 5000) (s := (0, S)) (by omega) ⟨rfl, Fr.refl _ _, fun q hq => absurd hq (by omega), fun q _ hq => (hs.2 q hq).2.2.2⟩
    (fun i s hi ⟨h1, h3, h4, h5⟩ => Or.inl ⟨(nI (i + 1), pA_ s.2 41 i (nI (min 99 (ka i + 1)))), by
      have hn' : ¬ n ≤ i := by omega
      have b := (hb.2 i hi).2.2.2
      have e3 : mmin_ 99 (nI (ka i + 1)) = nI (min 99 (ka i + 1)) := mmin_n (a := 99) (by omega) (by omega)
      unfold bX11_age_2
      have g : gI_ s.2 37 4 = nI n := by rw [h3.gI (by simp)]; exact hs.1
      rw [h1, g]
      simp (disch := omega) only [li_le1, li_le2, li_lt1, li_lt2, li_eq1, li_eq2, li_add1, li_add2, li_sub1, li_sub2, li_mul1, li_mul2, li_div2, nI_leI, nI_ltI, nI_eq, nI_add, nI_sub, nI_mul, nI_div, rI_n, rL_n, rR_n, wI_n, wL_n, li_rI, li_rL, li_rR, li_wI, li_wL, b1_s, bs_l, bs_r, oI_e, oL_e, oR_e, wZ_0, wZ_1, wZ_b, if_true, if_false, not_true_eq_false, not_false_eq_true, hn', h5 i (Nat.le_refl i) hi, e3], rfl, h3.pA (by simp), fun q hq => by
      simp only [aI_pA]
      by_cases e : q = i
      · simp [e]
      · simp [e]; exact h4 q (by omega), fun q hq hq2 => by
      simp only [aI_pA]
      rw [if_neg (by omega)]
      exact h5 q (by omega) hq2⟩)
    (fun s ⟨h1, h3, h4, h5⟩ => ⟨s.2, by
      unfold bX11_age_2
      have g : gI_ s.2 37 4 = nI n := by rw [h3.gI (by simp)]; exact hs.1
      rw [h1, g]
      simp (disch := omega) only [li_le1, li_le2, li_lt1, li_lt2, li_eq1, li_eq2, li_add1, li_add2, li_sub1, li_sub2, li_mul1, li_mul2, li_div2, nI_leI, nI_ltI, nI_eq, nI_add, nI_sub, nI_mul, nI_div, rI_n, rL_n, rR_n, wI_n, wL_n, li_rI, li_rL, li_rR, li_wI, li_wL, b1_s, bs_l, bs_r, oI_e, oL_e, oR_e, wZ_0, wZ_1, wZ_b, if_true, if_false, not_true_eq_false, not_false_eq_true, Nat.le_refl], h3, h4⟩)
  exact ⟨S', hl, hz, hF⟩
theorem age_m {S : St} {n : Nat} {kw kh kg ka : Nat → Nat} (hs : Stk S 0 17 13 n kw kh kg ka) (hb : StB n kw kh kg ka) : ∃ S', lp (fun w21 : Int32 × St => bX12_age_2 w21.1 w21.2) 5000 (0, S) = some S' ∧ (∀ q, q < n → aI_ S' 16 q = nI (min 99 (ka q + 1))) ∧ Fr (fun a _ => a == 16) S S' := by
  have hn := hb.1
  obtain ⟨S', hl, hF, hz⟩ := lp_inv (body := fun w21 : Int32 × St => bX12_age_2 w21.1 w21.2) (fun i s => s.1 = nI i ∧ Fr (fun a _ => a == 16) S s.2 ∧ (∀ q, q < i → aI_ s.2 16 q = nI (min 99 (ka q + 1))) ∧ (∀ q, i ≤ q → q < n → aI_ s.2 16 q = nI (ka q))) (fun r => Fr (fun a _ => a == 16) S r ∧ (∀ q, q < n → aI_ r 16 q = nI (min 99 (ka q + 1)))) n (m := 5000) (s := (0, S)) (by omega) ⟨rfl, Fr.refl _ _, fun q hq => absurd hq (by omega), fun q _ hq => (hs.2 q hq).2.2.2⟩
    (fun i s hi ⟨h1, h3, h4, h5⟩ => Or.inl ⟨(nI (i + 1), pA_ s.2 16 i (nI (min 99 (ka i + 1)))), by
      have hn' : ¬ n ≤ i := by omega
      have b := (hb.2 i hi).2.2.2
      unfold bX12_age_2
      have g : gI_ s.2 0 17 = nI n := by rw [h3.gI (by simp)]; exact hs.1
      rw [h1, g]
      simp (disch := omega) only [li_le1, li_le2, li_lt1, li_lt2, li_eq1, li_eq2, li_add1, li_add2, li_sub1, li_sub2, li_mul1, li_mul2, li_div2, nI_leI, nI_ltI, nI_eq, nI_add, nI_sub, nI_mul, nI_div, rI_n, rL_n, rR_n, wI_n, wL_n, li_rI, li_rL, li_rR, li_wI, li_wL, b1_s, bs_l, bs_r, oI_e, oL_e, oR_e, wZ_0, wZ_1, wZ_b, if_true, if_false, not_true_eq_false, not_false_eq_true, hn', h5 i (Nat.le_refl i) hi]
      by_cases z : 99 ≤ ka i
      · rw [if_pos z, Nat.min_eq_left (by omega)]; rfl
      · rw [if_neg z, Nat.min_eq_right (by omega)], rfl, h3.pA (by simp), fun q hq => by
      simp only [aI_pA]
      by_cases e : q = i
      · simp [e]
      · simp [e]; exact h4 q (by omega), fun q hq hq2 => by
      simp only [aI_pA]
      rw [if_neg (by omega)]
      exact h5 q (by omega) hq2⟩)
    (fun s ⟨h1, h3, h4, h5⟩ => ⟨s.2, by
      unfold bX12_age_2
      have g : gI_ s.2 0 17 = nI n := by rw [h3.gI (by simp)]; exact hs.1
      rw [h1, g]
      simp (disch := omega) only [li_le1, li_le2, li_lt1, li_lt2, li_eq1, li_eq2, li_add1, li_add2, li_sub1, li_sub2, li_mul1, li_mul2, li_div2, nI_leI, nI_ltI, nI_eq, nI_add, nI_sub, nI_mul, nI_div, rI_n, rL_n, rR_n, wI_n, wL_n, li_rI, li_rL, li_rR, li_wI, li_wL, b1_s, bs_l, bs_r, oI_e, oL_e, oR_e, wZ_0, wZ_1, wZ_b, if_true, if_false, not_true_eq_false, not_false_eq_true, Nat.le_refl], h3, h4⟩)
  exact ⟨S', hl, hz, hF⟩
theorem sim_age : ∀ (SX SM : St), Rel_ SX SM → ∃ (r : Int32) (S1 S2 : St), fX11_age SX = some (r, S1) ∧ fX12_age SM = some (r, S2) ∧ Rel_ S1 S2 := by
  intro SX SM h
  obtain ⟨hB, hS, hP, hT, hL, hH, hE⟩ := id h
  obtain ⟨ns, sw, sh, pr, ls, tn, ⟨sb, sx, sm⟩, ⟨nk, kw, kh, kg, ka, kb, kx, km⟩, ⟨no, os, oa, op, ob, ox, om⟩⟩ := hS
  obtain ⟨S', e1, z1, F1⟩ := age_x kx kb
  obtain ⟨T', e2, z2, F2⟩ := age_m km kb
  unfold fX11_age fX12_age
  rw [e1, e2]
  have g1 : gI_ S' 37 4 = nI nk := by rw [F1.gI (by simp)]; exact kx.1
  have g2 : gI_ T' 0 17 = nI nk := by rw [F2.gI (by simp)]; exact km.1
  simp only [b1_s, bs_l, bs_r, oI_e, oL_e, oR_e, g1, g2]
  refine ⟨_, _, _, rfl, rfl, hB.fr F1 F2 (fun k j z => by simp [plX, plM, Nat.ble_eq] at z ⊢; omega) (fun k j z => by simp [plX, plM, Nat.ble_eq] at z ⊢; omega), ⟨ns, sw, sh, pr, ls, tn, ⟨sb, sx.fr F1 rfl (fun k j z1 z2 => by simp; omega), sm.fr F2 rfl (fun k j z1 z2 => by simp; omega)⟩, ⟨nk, kw, kh, kg, fun q => min 99 (ka q + 1), ⟨kb.1, fun s hs => ⟨(kb.2 s hs).1, (kb.2 s hs).2.1, (kb.2 s hs).2.2.1, Nat.min_le_left _ _⟩⟩, ⟨g1, fun s hs => ⟨?_, ?_, ?_, z1 s hs⟩⟩, ⟨g2, fun s hs => ⟨?_, ?_, ?_, z2 s hs⟩⟩⟩, ⟨no, os, oa, op, ob, ox.fr F1 rfl (fun k j z1 z2 => by simp; omega), om.fr F2 rfl (fun k j z1 z2 => by simp; omega)⟩⟩, hP.fr F1 F2 (fun k j z => by simp [plX, plM, Nat.ble_eq] at z ⊢; omega) (fun k j z => by simp [plX, plM, Nat.ble_eq] at z ⊢; omega), hT.fr F1 F2 (fun k j z => by simp [plX, plM, Nat.ble_eq] at z ⊢; omega) (fun k j z => by simp [plX, plM, Nat.ble_eq] at z ⊢; omega), hL.fr F1 F2 (fun k j z => by simp [plX, plM, Nat.ble_eq] at z ⊢; omega) (fun k j z => by simp [plX, plM, Nat.ble_eq] at z ⊢; omega), hH.fr F1 F2 (fun k j z => by simp [plX, plM, Nat.ble_eq] at z ⊢; omega) (fun k j z => by simp [plX, plM, Nat.ble_eq] at z ⊢; omega), by rw [F1.gI (by simp), F2.gI (by simp)]; exact hE⟩
  · rw [F1.aI (by simp)]; exact (kx.2 s hs).1
  · rw [F1.aI (by simp)]; exact (kx.2 s hs).2.1
  · rw [F1.aI (by simp)]; exact (kx.2 s hs).2.2.1
  · rw [F2.aI (by simp)]; exact (km.2 s hs).1
  · rw [F2.aI (by simp)]; exact (km.2 s hs).2.1
  · rw [F2.aI (by simp)]; exact (km.2 s hs).2.2.1
