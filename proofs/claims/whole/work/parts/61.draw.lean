/-! draw -/
def bdc (sz j : Nat) (ce : Nat → Int32) (i : Nat) : Option Int32 := if j + i < sz then (if 0 ≤ ce (j + i) ∧ ce (j + i) ≤ 10 then none else some (-100 - nI i)) else some (-12)
def fbd (sz j : Nat) (ce : Nat → Int32) : Nat → Option Int32
  | 0 => none
  | i + 1 => match fbd sz j ce i with
    | some r => some r
    | none => bdc sz j ce i
theorem fbd_mono {sz j : Nat} {ce : Nat → Int32} : ∀ (m i : Nat) (v : Int32), fbd sz j ce i = some v → fbd sz j ce (i + m) = some v := by
  intro m
  induction m with
  | zero => intro i v h; exact h
  | succ m ih =>
    intro i v h
    show (match fbd sz j ce (i + m) with | some r => some r | none => bdc sz j ce (i + m)) = some v
    rw [ih i v h]
theorem fbd_ne {sz j : Nat} {ce : Nat → Int32} : ∀ (i : Nat) (v : Int32), i ≤ 64 → fbd sz j ce i = some v → ¬ v = 0 := by
  intro i
  induction i with
  | zero => intro v _ h; cases h
  | succ i ih =>
    intro v hi h
    rw [fbd] at h
    cases hf : fbd sz j ce i with
    | some r => rw [hf] at h; cases h; exact ih _ (by omega) hf
    | none =>
      rw [hf] at h
      simp only [bdc] at h
      split at h
      · split at h
        · cases h
        · obtain rfl := Option.some.inj h
          intro q
          have e1 : (nI i).toInt = i := nI_toInt (by omega)
          have e2 : (-100 : Int32).toInt = -100 := by decide
          have e3 : (-100 - nI i).toInt = (-100 : Int32).toInt - (nI i).toInt := fb_subI (by omega) (by omega)
          rw [q] at e3
          have e4 : (0 : Int32).toInt = 0 := by decide
          omega
      · obtain rfl := Option.some.inj h; decide
theorem fbd_none {sz j : Nat} {ce : Nat → Int32} : ∀ (n : Nat), fbd sz j ce n = none → ∀ i, i < n → bdc sz j ce i = none := by
  intro n
  induction n with
  | zero => intro _ i hi; omega
  | succ n ih =>
    intro h i hi
    rw [fbd] at h
    cases hf : fbd sz j ce n with
    | some r => rw [hf] at h; cases h
    | none =>
      rw [hf] at h
      by_cases e : i = n
      · rw [e]; exact h
      · exact ih hf i (by omega)
theorem refuse_x {S : St} {k sz j N : Nat} {ce : Nat → Int32} (h0 : gI_ S 1 0 * gI_ S 1 1 = nI N) (hN : N ≤ 64) (h1 : gI_ S k 1 = nI sz) (hs : sz ≤ 64) (h2 : ∀ i, i < 64 → aI_ S (k + 1) i = ce i) (hj : j < 64) : fX11_refusalOf k S (nI j) = some ((fbd sz j ce N).getD 0) := by
  unfold fX11_refusalOf
  obtain ⟨r, e, hr⟩ := lp_inv (body := fun w21 : Int32 => bX11_refusalOf_19 k S (nI j) w21) (fun i s => s = nI i ∧ fbd sz j ce i = none) (fun r => (r = .inl () ∧ fbd sz j ce N = none) ∨ ∃ v, r = .inr v ∧ fbd sz j ce N = some v) N (m := 5000) (s := 0) (by omega) ⟨rfl, rfl⟩
    (fun i s hi ⟨k1, k2⟩ => by
      subst k1
      have hn' : ¬ N ≤ i := by omega
      have fin : ∀ v, bdc sz j ce i = some v → fbd sz j ce N = some v := fun v hv => by
        have : fbd sz j ce (i + 1) = some v := by rw [fbd, k2]; exact hv
        have := fbd_mono (N - (i + 1)) (i + 1) v this
        rw [show i + 1 + (N - (i + 1)) = N by omega] at this
        exact this
      unfold bX11_refusalOf_19
      rw [h0, show nI j + nI i = nI (j + i) from nI_add j i]
      have cc : (0 ≤ nI (j + i) ∧ nI (j + i) ≤ nI sz - 1) ↔ j + i < sz := by
        rw [in_nat (by omega)]
        constructor
        · intro ⟨q, hq, he⟩
          have := (nI_eq (show j + i < 2 ^ 31 by omega) (show q < 2 ^ 31 by omega)).mp he
          omega
        · intro q; exact ⟨j + i, q, rfl⟩
      simp only [has_s h1, within_e, b1_s, bs_l, bs_r, oI_e, oL_e, oR_e, i10, cc]
      simp (disch := omega) only [li_le1, li_le2, li_lt1, li_lt2, li_eq1, li_eq2, li_add1, li_add2, li_sub1, li_sub2, li_mul1, li_mul2, li_div2, nI_leI, nI_ltI, nI_eq, nI_add, nI_sub, nI_mul, nI_div, rI_n, rL_n, rR_n, wI_n, wL_n, li_rI, li_rL, li_rR, li_wI, li_wL, b1_s, bs_l, bs_r, oI_e, oL_e, oR_e, wZ_0, wZ_1, wZ_b, if_true, if_false, not_true_eq_false, not_false_eq_true, hn']
      by_cases c : j + i < sz
      · simp only [c, not_true_eq_false, not_false_eq_true, if_true, if_false, and_self, true_and, and_true, and_false, false_and]
        simp (disch := omega) only [li_le1, li_le2, li_lt1, li_lt2, li_eq1, li_eq2, li_add1, li_add2, li_sub1, li_sub2, li_mul1, li_mul2, li_div2, nI_leI, nI_ltI, nI_eq, nI_add, nI_sub, nI_mul, nI_div, rI_n, rL_n, rR_n, wI_n, wL_n, li_rI, li_rL, li_rR, li_wI, li_wL, b1_s, bs_l, bs_r, oI_e, oL_e, oR_e, wZ_0, wZ_1, wZ_b, if_true, if_false, not_true_eq_false, not_false_eq_true, h2 (j + i) (by omega), within_e, i10]
        by_cases d : 0 ≤ ce (j + i) ∧ ce (j + i) ≤ 10
        · simp only [d, not_true_eq_false, not_false_eq_true, if_true, if_false, and_self, true_and, and_true, and_false, false_and]
          exact Or.inl ⟨_, rfl, rfl, by rw [fbd, k2]; simp only [bdc, c, d, not_true_eq_false, not_false_eq_true, if_true, if_false, and_self, true_and, and_true, and_false, false_and]⟩
        · simp only [d, not_true_eq_false, not_false_eq_true, if_true, if_false, and_self, true_and, and_true, and_false, false_and]
          exact Or.inr ⟨_, rfl, Or.inr ⟨_, rfl, fin _ (by simp only [bdc, c, d, not_true_eq_false, not_false_eq_true, if_true, if_false, and_self, true_and, and_true, and_false, false_and])⟩⟩
      · simp only [c, not_true_eq_false, not_false_eq_true, if_true, if_false, and_self, true_and, and_true, and_false, false_and]
        exact Or.inr ⟨_, rfl, Or.inr ⟨_, rfl, fin _ (by simp only [bdc, c, not_true_eq_false, not_false_eq_true, if_true, if_false, and_self, true_and, and_true, and_false, false_and])⟩⟩)
    (fun s ⟨k1, k2⟩ => ⟨.inl (), by
      subst k1
      unfold bX11_refusalOf_19
      rw [h0]
      simp (disch := omega) only [li_le1, li_le2, li_lt1, li_lt2, li_eq1, li_eq2, li_add1, li_add2, li_sub1, li_sub2, li_mul1, li_mul2, li_div2, nI_leI, nI_ltI, nI_eq, nI_add, nI_sub, nI_mul, nI_div, rI_n, rL_n, rR_n, wI_n, wL_n, li_rI, li_rL, li_rR, li_wI, li_wL, b1_s, bs_l, bs_r, oI_e, oL_e, oR_e, wZ_0, wZ_1, wZ_b, if_true, if_false, not_true_eq_false, not_false_eq_true, Nat.le_refl], Or.inl ⟨rfl, k2⟩⟩)
  rw [e]
  rcases hr with ⟨rfl, z⟩ | ⟨v, rfl, z⟩
  · rw [z]; rfl
  · rw [z]; rfl
theorem refuse_m {S : St} {k sz j N : Nat} {ce : Nat → Int32} (h0 : gI_ S 0 0 * gI_ S 0 1 = nI N) (hN : N ≤ 64) (hk : k < 4) (h1 : aI_ S 40 k = nI sz) (hs : sz ≤ 64) (h2 : ∀ i, i < 64 → aI_ S 41 (64 * k + i) = ce i) (hj : j < 64) : lp (fun w23 : Int32 => bX12_draw_42 S (nI k) (nI j) w23) 5000 0 = some (match fbd sz j ce N with | none => .inl () | some v => .inr (v, S)) := by
  obtain ⟨r, e, hr⟩ := lp_inv (body := fun w23 : Int32 => bX12_draw_42 S (nI k) (nI j) w23) (fun i s => s = nI i ∧ fbd sz j ce i = none) (fun r => r = (match fbd sz j ce N with | none => .inl () | some v => .inr (v, S))) N (m := 5000) (s := 0) (by omega) ⟨rfl, rfl⟩
    (fun i s hi ⟨k1, k2⟩ => by
      subst k1
      have hn' : ¬ N ≤ i := by omega
      have fin : ∀ v, bdc sz j ce i = some v → fbd sz j ce N = some v := fun v hv => by
        have : fbd sz j ce (i + 1) = some v := by rw [fbd, k2]; exact hv
        have := fbd_mono (N - (i + 1)) (i + 1) v this
        rw [show i + 1 + (N - (i + 1)) = N by omega] at this
        exact this
      have l1 : (nI j).toInt64 + (nI i).toInt64 = lN (j + i) := by rw [nI_l (by omega), nI_l (by omega), lN_add]
      have l2 : ¬ lg_cmp (lN (j + i)) 0 < 0 := by
        rw [lg_cmp_lt]
        have := (lN_lt (a := j + i) (b := 0) (by omega) (by omega)).mp
        intro q
        exact absurd (this q) (by omega)
      have l3 : (lg_cmp (lN (j + i)) (nI sz).toInt64 < 0) ↔ j + i < sz := by
        rw [lg_cmp_lt, nI_l (by omega)]
        exact lN_lt (by omega) (by omega)
      unfold bX12_draw_42
      rw [h0, l1]
      have ein := in_e S (ce (j + i)) 0 10 (B := 0) (C := 10) rfl rfl
      simp (disch := omega) only [li_le1, li_le2, li_lt1, li_lt2, li_eq1, li_eq2, li_add1, li_add2, li_sub1, li_sub2, li_mul1, li_mul2, li_div2, nI_leI, nI_ltI, nI_eq, nI_add, nI_sub, nI_mul, nI_div, rI_n, rL_n, rR_n, wI_n, wL_n, li_rI, li_rL, li_rR, li_wI, li_wL, b1_s, bs_l, bs_r, oI_e, oL_e, oR_e, wZ_0, wZ_1, wZ_b, if_true, if_false, not_true_eq_false, not_false_eq_true, hn', l2, h1, l3, lN_i]
      by_cases c : j + i < sz
      · simp only [c, not_true_eq_false, not_false_eq_true, if_true, if_false, and_self, true_and, and_true, and_false, false_and]
        simp (disch := omega) only [li_le1, li_le2, li_lt1, li_lt2, li_eq1, li_eq2, li_add1, li_add2, li_sub1, li_sub2, li_mul1, li_mul2, li_div2, nI_leI, nI_ltI, nI_eq, nI_add, nI_sub, nI_mul, nI_div, rI_n, rL_n, rR_n, wI_n, wL_n, li_rI, li_rL, li_rR, li_wI, li_wL, b1_s, bs_l, bs_r, oI_e, oL_e, oR_e, wZ_0, wZ_1, wZ_b, if_true, if_false, not_true_eq_false, not_false_eq_true, h2 (j + i) (by omega), ein, i10]
        by_cases d : 0 ≤ ce (j + i) ∧ ce (j + i) ≤ 10
        · simp only [d, not_true_eq_false, not_false_eq_true, if_true, if_false, and_self, true_and, and_true, and_false, false_and]
          exact Or.inl ⟨_, rfl, rfl, by rw [fbd, k2]; simp only [bdc, c, d, not_true_eq_false, not_false_eq_true, if_true, if_false, and_self, true_and, and_true, and_false, false_and]⟩
        · simp only [d, not_true_eq_false, not_false_eq_true, if_true, if_false, and_self, true_and, and_true, and_false, false_and]
          exact Or.inr ⟨_, rfl, by rw [fin _ (show bdc sz j ce i = some (-100 - nI i) by simp only [bdc, c, d, not_true_eq_false, not_false_eq_true, if_true, if_false, and_self, true_and, and_true, and_false, false_and])]⟩
      · simp only [c, not_true_eq_false, not_false_eq_true, if_true, if_false, and_self, true_and, and_true, and_false, false_and]
        exact Or.inr ⟨_, rfl, by rw [fin _ (show bdc sz j ce i = some (-12) by simp only [bdc, c, not_true_eq_false, not_false_eq_true, if_true, if_false, and_self, true_and, and_true, and_false, false_and])]⟩)
    (fun s ⟨k1, k2⟩ => ⟨.inl (), by
      subst k1
      unfold bX12_draw_42
      rw [h0]
      simp (disch := omega) only [li_le1, li_le2, li_lt1, li_lt2, li_eq1, li_eq2, li_add1, li_add2, li_sub1, li_sub2, li_mul1, li_mul2, li_div2, nI_leI, nI_ltI, nI_eq, nI_add, nI_sub, nI_mul, nI_div, rI_n, rL_n, rR_n, wI_n, wL_n, li_rI, li_rL, li_rR, li_wI, li_wL, b1_s, bs_l, bs_r, oI_e, oL_e, oR_e, wZ_0, wZ_1, wZ_b, if_true, if_false, not_true_eq_false, not_false_eq_true, Nat.le_refl], by rw [k2]⟩)
  rw [e, hr]
/-- a first cell that is none -/
theorem refuse0_x {S : St} {k sz N : Nat} {f : Int32} (h0 : gI_ S 1 0 * gI_ S 1 1 = nI N) (hN : 1 ≤ N ∧ N ≤ 64) (h1 : gI_ S k 1 = nI sz) (hf : ¬ (0 ≤ f ∧ f ≤ nI sz - 1)) : fX11_refusalOf k S f = some (-12) := by
  unfold fX11_refusalOf
  have e : bX11_refusalOf_19 k S f 0 = some (.inr (.inr (-12))) := by
    unfold bX11_refusalOf_19
    have e0 : f + 0 = f := by
      apply Int32.toBitVec_inj.mp
      show f.toBitVec + 0#32 = f.toBitVec
      rw [BitVec.add_zero]
    rw [h0, if_neg (show ¬ nI N ≤ 0 from nI_nle (by omega) (by omega)), e0, has_s h1]
    simp only [b1_s, bs_l, bs_r, oI_e, oL_e, oR_e, i10, hf, not_true_eq_false, not_false_eq_true, if_true, if_false, and_self, true_and, and_true, and_false, false_and]
  have e2 : lp (fun w21 : Int32 => bX11_refusalOf_19 k S f w21) 5000 0 = some (.inr (-12)) := by
    rw [lp]
    simp only [e]
  rw [e2]
  rfl
theorem refuse0_m {S : St} {k sz N : Nat} {f : Int32} (h0 : gI_ S 0 0 * gI_ S 0 1 = nI N) (hN : 1 ≤ N ∧ N ≤ 64) (hk : k < 4) (h1 : aI_ S 40 k = nI sz) (hs : sz ≤ 64) (hf : ¬ (0 ≤ f ∧ f ≤ nI sz - 1)) : lp (fun w23 : Int32 => bX12_draw_42 S (nI k) f w23) 5000 0 = some (.inr (-12, S)) := by
  have e : bX12_draw_42 S (nI k) f 0 = some (.inr (.inr (-12, S))) := by
    unfold bX12_draw_42
    have e0 : f.toInt64 + (0 : Int32).toInt64 = f.toInt64 := by
      apply Int64.toBitVec_inj.mp
      show f.toInt64.toBitVec + 0#64 = f.toInt64.toBitVec
      rw [BitVec.add_zero]
    rw [h0, if_neg (show ¬ nI N ≤ 0 from nI_nle (by omega) (by omega)), e0]
    simp only [b1_s, bs_l, bs_r, oI_e, oL_e, oR_e, lg_cmp_lt]
    have z : (f.toInt64 < 0) ↔ f < 0 := fa_wide_lt f 0
    simp only [z]
    by_cases c : f < 0
    · rw [if_pos c]
    · rw [if_neg c]
      simp (disch := omega) only [li_le1, li_le2, li_lt1, li_lt2, li_eq1, li_eq2, li_add1, li_add2, li_sub1, li_sub2, li_mul1, li_mul2, li_div2, nI_leI, nI_ltI, nI_eq, nI_add, nI_sub, nI_mul, nI_div, rI_n, rL_n, rR_n, wI_n, wL_n, li_rI, li_rL, li_rR, li_wI, li_wL, b1_s, bs_l, bs_r, oI_e, oL_e, oR_e, wZ_0, wZ_1, wZ_b, if_true, if_false, not_true_eq_false, not_false_eq_true, h1]
      rw [if_neg]
      rw [fa_wide_lt]
      intro q
      obtain ⟨j, hj, rfl⟩ := nI_of c
      exact hf ((in_nat (by omega)).mpr ⟨j, (nI_ltI hj (by omega)).mp q, rfl⟩)
  rw [lp]
  simp only [e]
/-! the squares that are read -/
def crn (w h : Nat) (cv : Nat → Nat) (cr : Nat → Bool) (i q : Nat) : Bool := if q % 8 < w ∧ q / 8 < h ∧ q / 8 * w + q % 8 < i then decide (cv (q / 8 * w + q % 8) = 10) else cr q
def grn (w h : Nat) (cv : Nat → Nat) (gr : Nat → Nat) (i q : Nat) : Nat := if q % 8 < w ∧ q / 8 < h ∧ q / 8 * w + q % 8 < i then (if cv (q / 8 * w + q % 8) = 10 then 0 else cv (q / 8 * w + q % 8)) else gr q
theorem idx_u {a b w r x : Nat} (hr : r < w) (hx : x < w) (h : a * w + r = b * w + x) : a = b ∧ r = x := by
  rcases Nat.lt_trichotomy a b with q | q | q
  · have : (a + 1) * w ≤ b * w := Nat.mul_le_mul_right w q
    rw [Nat.add_mul] at this
    omega
  · subst q; exact ⟨rfl, by omega⟩
  · have : (b + 1) * w ≤ a * w := Nat.mul_le_mul_right w q
    rw [Nat.add_mul] at this
    omega
theorem crn_s {w h x y : Nat} {cv : Nat → Nat} {cr : Nat → Bool} (hw : w ≤ 8) (hx : x < w) (hy : y < h) (q : Nat) : crn w h cv cr (y * w + x + 1) q = if q = 8 * y + x then decide (cv (y * w + x) = 10) else crn w h cv cr (y * w + x) q := by
  unfold crn
  by_cases e : q = 8 * y + x
  · have e1 : q % 8 = x := by omega
    have e2 : q / 8 = y := by omega
    rw [if_pos e, e1, e2, if_pos ⟨hx, hy, by omega⟩]
  · rw [if_neg e]
    by_cases c1 : q % 8 < w
    · have ne : q / 8 * w + q % 8 ≠ y * w + x := fun z => by
        have := idx_u c1 hx z
        omega
      by_cases c2 : q / 8 < h ∧ q / 8 * w + q % 8 < y * w + x
      · rw [if_pos ⟨c1, c2.1, by omega⟩, if_pos ⟨c1, c2.1, c2.2⟩]
      · rw [if_neg (fun z => c2 ⟨z.2.1, by omega⟩), if_neg (fun z => c2 ⟨z.2.1, z.2.2⟩)]
    · rw [if_neg (fun z => c1 z.1), if_neg (fun z => c1 z.1)]
theorem grn_s {w h x y : Nat} {cv : Nat → Nat} {gr : Nat → Nat} (hw : w ≤ 8) (hx : x < w) (hy : y < h) (q : Nat) : grn w h cv gr (y * w + x + 1) q = if q = 8 * y + x then (if cv (y * w + x) = 10 then 0 else cv (y * w + x)) else grn w h cv gr (y * w + x) q := by
  unfold grn
  by_cases e : q = 8 * y + x
  · have e1 : q % 8 = x := by omega
    have e2 : q / 8 = y := by omega
    rw [if_pos e, e1, e2, if_pos ⟨hx, hy, by omega⟩]
  · rw [if_neg e]
    by_cases c1 : q % 8 < w
    · have ne : q / 8 * w + q % 8 ≠ y * w + x := fun z => by
        have := idx_u c1 hx z
        omega
      by_cases c2 : q / 8 < h ∧ q / 8 * w + q % 8 < y * w + x
      · have p1 : q % 8 < w ∧ q / 8 < h ∧ q / 8 * w + q % 8 < y * w + x + 1 := ⟨c1, c2.1, by omega⟩
        have p2 : q % 8 < w ∧ q / 8 < h ∧ q / 8 * w + q % 8 < y * w + x := ⟨c1, c2.1, c2.2⟩
        rw [if_pos p1, if_pos p2]
      · rw [if_neg (fun z => c2 ⟨z.2.1, by omega⟩), if_neg (fun z => c2 ⟨z.2.1, z.2.2⟩)]
    · rw [if_neg (fun z => c1 z.1), if_neg (fun z => c1 z.1)]
def pCpX (a b : Nat) : Bool := a == 2 || (a == 1 && b == 2)
theorem copy_in {S : St} {k w h j y : Nat} {cv : Nat → Nat} {cr : Nat → Bool} {gr : Nat → Nat} (hw : 1 ≤ w ∧ w ≤ 8) (hy : y < h) (hh : h ≤ 8) (hk : 75 ≤ k) (h0 : gI_ S 1 0 = nI w) (hc : ∀ i, i < w * h → aI_ S (k + 1) (j + i) = nI (cv i) ∧ cv i ≤ 10 ∧ j + i < 64)
    (b0 : ∀ q, q < 64 → lt_ (gL_ S 1 2) q = crn w h cv cr (y * w) q ∧ aI_ S 2 q = nI (grn w h cv gr (y * w) q)) :
    ∃ S', lp (fun w25 : Int32 × Int32 × St => bX11_copyOnBoard_20 k (nI y) w25.1 w25.2.1 w25.2.2) 5000 (nI (j + y * w), 0, S) = some (nI (j + (y + 1) * w), S') ∧ (∀ q, q < 64 → lt_ (gL_ S' 1 2) q = crn w h cv cr ((y + 1) * w) q ∧ aI_ S' 2 q = nI (grn w h cv gr ((y + 1) * w) q)) ∧ Fr pCpX S S' := by
  have ey : (y + 1) * w = y * w + w := by rw [Nat.add_mul, Nat.one_mul]
  have hyw : y * w + w ≤ w * h := by
    have : (y + 1) * w ≤ h * w := Nat.mul_le_mul_right w hy
    rw [ey, Nat.mul_comm h w] at this
    exact this
  obtain ⟨r, e, r1, r2, r3⟩ := lp_inv (body := fun w25 : Int32 × Int32 × St => bX11_copyOnBoard_20 k (nI y) w25.1 w25.2.1 w25.2.2) (fun x s => s.1 = nI (j + (y * w + x)) ∧ s.2.1 = nI x ∧ Fr pCpX S s.2.2 ∧ ∀ q, q < 64 → lt_ (gL_ s.2.2 1 2) q = crn w h cv cr (y * w + x) q ∧ aI_ s.2.2 2 q = nI (grn w h cv gr (y * w + x) q)) (fun r => r.1 = nI (j + (y * w + w)) ∧ Fr pCpX S r.2 ∧ ∀ q, q < 64 → lt_ (gL_ r.2 1 2) q = crn w h cv cr (y * w + w) q ∧ aI_ r.2 2 q = nI (grn w h cv gr (y * w + w) q)) w (m := 5000) (s := (nI (j + y * w), 0, S)) (by omega) ⟨rfl, rfl, Fr.refl _ _, b0⟩
    (fun x s hx ⟨k1, k2, k3, k4⟩ => by
      have hn' : ¬ w ≤ x := by omega
      obtain ⟨c1, c2, c3⟩ := hc (y * w + x) (by omega)
      have g0 : gI_ s.2.2 1 0 = nI w := by rw [k3.gI rfl]; exact h0
      have g1 : aI_ s.2.2 (k + 1) (j + (y * w + x)) = nI (cv (y * w + x)) := by rw [k3.aI (by simp [pCpX]; omega)]; exact c1
      have e1 : (if cv (y * w + x) = 10 then some 1 else some 0 : Option Int32) = some (zb (decide (cv (y * w + x) = 10))) := by
        by_cases z : cv (y * w + x) = 10
        · rw [if_pos z]; simp [z, zb]
        · rw [if_neg z]; simp [z, zb]
      have e2 : (if decide (cv (y * w + x) = 10) = false then some (nI (cv (y * w + x))) else some 0 : Option Int32) = some (nI (if cv (y * w + x) = 10 then 0 else cv (y * w + x))) := by
        by_cases z : cv (y * w + x) = 10
        · simp [z]; rfl
        · simp [z]
      obtain ⟨u, e3, hu⟩ := withBit_e (pA_ s.2.2 2 (8 * y + x) (nI (if cv (y * w + x) = 10 then 0 else cv (y * w + x)))) (v := gL_ (pA_ s.2.2 2 (8 * y + x) (nI (if cv (y * w + x) = 10 then 0 else cv (y * w + x)))) 1 2) (x := x) (y := y) (b := decide (cv (y * w + x) = 10)) (by omega) (by omega)
      left
      unfold bX11_copyOnBoard_20 fX11_squareAt
      rw [k1, k2, g0]
      simp (disch := omega) only [li_le1, li_le2, li_lt1, li_lt2, li_eq1, li_eq2, li_add1, li_add2, li_sub1, li_sub2, li_mul1, li_mul2, li_div2, nI_leI, nI_ltI, nI_eq, nI_add, nI_sub, nI_mul, nI_div, rI_n, rL_n, rR_n, wI_n, wL_n, li_rI, li_rL, li_rR, li_wI, li_wL, b1_s, bs_l, bs_r, oI_e, oL_e, oR_e, wZ_0, wZ_1, wZ_b, if_true, if_false, not_true_eq_false, not_false_eq_true, hn', g1, e1, zb_0, e2, Nat.mul_comm y 8]
      rw [e3]
      simp only [b1_s, bs_l, bs_r, oI_e, oL_e, oR_e]
      refine ⟨_, rfl, ?_, rfl, Fr.pL rfl (Fr.pA rfl k3), fun q hq => ?_⟩
      · show nI (j + (y * w + x) + 1) = _; congr 1
      · simp only [gI_pI, gI_pL, gI_pA, gI_pB, gI_pR, gI_pW, gL_pI, gL_pL, gL_pA, gL_pB, gL_pR, gL_pW, aI_pI, aI_pL, aI_pA, aI_pB, aI_pR, aI_pW, aL_pI, aL_pL, aL_pA, aL_pB, aL_pR, aL_pW, gR_pI, gR_pL, gR_pA, gR_pB, gR_pR, gR_pW, and_self, if_true, true_and]
        rw [show y * w + (x + 1) = y * w + x + 1 by omega, crn_s hw.2 hx hy, grn_s hw.2 hx hy, hu q hq]
        simp only [gI_pI, gI_pL, gI_pA, gI_pB, gI_pR, gI_pW, gL_pI, gL_pL, gL_pA, gL_pB, gL_pR, gL_pW, aI_pI, aI_pL, aI_pA, aI_pB, aI_pR, aI_pW, aL_pI, aL_pL, aL_pA, aL_pB, aL_pR, aL_pW, gR_pI, gR_pL, gR_pA, gR_pB, gR_pR, gR_pW]
        by_cases z : q = 8 * y + x
        · simp only [z, if_true, and_self]
        · simp only [z, if_false]; exact k4 q hq)
    (fun s ⟨k1, k2, k3, k4⟩ => ⟨(s.1, s.2.2), by
      have g0 : gI_ s.2.2 1 0 = nI w := by rw [k3.gI rfl]; exact h0
      unfold bX11_copyOnBoard_20
      rw [k2, g0]
      simp (disch := omega) only [li_le1, li_le2, li_lt1, li_lt2, li_eq1, li_eq2, li_add1, li_add2, li_sub1, li_sub2, li_mul1, li_mul2, li_div2, nI_leI, nI_ltI, nI_eq, nI_add, nI_sub, nI_mul, nI_div, rI_n, rL_n, rR_n, wI_n, wL_n, li_rI, li_rL, li_rR, li_wI, li_wL, b1_s, bs_l, bs_r, oI_e, oL_e, oR_e, wZ_0, wZ_1, wZ_b, if_true, if_false, not_true_eq_false, not_false_eq_true, Nat.le_refl], k1, k3, k4⟩)
  rw [e, ey]
  refine ⟨r.2, ?_, r3, r2⟩
  rw [← r1]
theorem copy_all {S : St} {k w h j : Nat} {cv : Nat → Nat} {cr : Nat → Bool} {gr : Nat → Nat} (hw : 1 ≤ w ∧ w ≤ 8) (hh : h ≤ 8) (hk : 75 ≤ k) (h0 : gI_ S 1 0 = nI w) (h1 : gI_ S 1 1 = nI h) (hc : ∀ i, i < w * h → aI_ S (k + 1) (j + i) = nI (cv i) ∧ cv i ≤ 10 ∧ j + i < 64)
    (b0 : ∀ q, q < 64 → lt_ (gL_ S 1 2) q = cr q ∧ aI_ S 2 q = nI (gr q)) :
    ∃ S', fX11_copyOnBoard k S (nI j) = some S' ∧ (∀ q, q < 64 → lt_ (gL_ S' 1 2) q = crn w h cv cr (h * w) q ∧ aI_ S' 2 q = nI (grn w h cv gr (h * w) q)) ∧ Fr pCpX S S' := by
  unfold fX11_copyOnBoard
  obtain ⟨S', e, r1, r2⟩ := lp_inv (body := fun w21 : Int32 × Int32 × St => bX11_copyOnBoard_5 k w21.1 w21.2.1 w21.2.2) (fun y s => s.1 = nI (j + y * w) ∧ s.2.1 = nI y ∧ Fr pCpX S s.2.2 ∧ ∀ q, q < 64 → lt_ (gL_ s.2.2 1 2) q = crn w h cv cr (y * w) q ∧ aI_ s.2.2 2 q = nI (grn w h cv gr (y * w) q)) (fun r => Fr pCpX S r ∧ ∀ q, q < 64 → lt_ (gL_ r 1 2) q = crn w h cv cr (h * w) q ∧ aI_ r 2 q = nI (grn w h cv gr (h * w) q)) h (m := 5000) (s := (nI j, 0, S)) (by omega) ⟨by rw [Nat.zero_mul]; rfl, rfl, Fr.refl _ _, fun q hq => by
      rw [Nat.zero_mul]
      unfold crn grn
      rw [if_neg (by omega), if_neg (by omega)]
      exact b0 q hq⟩
    (fun y s hy ⟨k1, k2, k3, k4⟩ => by
      have hn' : ¬ h ≤ y := by omega
      have g1 : gI_ s.2.2 1 1 = nI h := by rw [k3.gI rfl]; exact h1
      obtain ⟨S2, e2, q1, q2⟩ := copy_in (S := s.2.2) (k := k) (j := j) (y := y) (cv := cv) (cr := cr) (gr := gr) hw hy hh hk (by rw [k3.gI rfl]; exact h0) (fun i hi => by
        rw [k3.aI (by simp [pCpX]; omega)]; exact hc i hi) k4
      left
      unfold bX11_copyOnBoard_5
      rw [k1, k2, g1]
      simp (disch := omega) only [li_le1, li_le2, li_lt1, li_lt2, li_eq1, li_eq2, li_add1, li_add2, li_sub1, li_sub2, li_mul1, li_mul2, li_div2, nI_leI, nI_ltI, nI_eq, nI_add, nI_sub, nI_mul, nI_div, rI_n, rL_n, rR_n, wI_n, wL_n, li_rI, li_rL, li_rR, li_wI, li_wL, b1_s, bs_l, bs_r, oI_e, oL_e, oR_e, wZ_0, wZ_1, wZ_b, if_true, if_false, not_true_eq_false, not_false_eq_true, hn', e2]
      exact ⟨_, rfl, rfl, rfl, k3.trans q2, q1⟩)
    (fun s ⟨k1, k2, k3, k4⟩ => ⟨s.2.2, by
      have g1 : gI_ s.2.2 1 1 = nI h := by rw [k3.gI rfl]; exact h1
      unfold bX11_copyOnBoard_5
      rw [k2, g1]
      simp (disch := omega) only [li_le1, li_le2, li_lt1, li_lt2, li_eq1, li_eq2, li_add1, li_add2, li_sub1, li_sub2, li_mul1, li_mul2, li_div2, nI_leI, nI_ltI, nI_eq, nI_add, nI_sub, nI_mul, nI_div, rI_n, rL_n, rR_n, wI_n, wL_n, li_rI, li_rL, li_rR, li_wI, li_wL, b1_s, bs_l, bs_r, oI_e, oL_e, oR_e, wZ_0, wZ_1, wZ_b, if_true, if_false, not_true_eq_false, not_false_eq_true, Nat.le_refl], k3, k4⟩)
  rw [e]
  exact ⟨S', rfl, r2, r1⟩
theorem copy_m {S : St} {k w h j : Nat} {cv : Nat → Nat} {cr : Nat → Bool} {gr : Nat → Nat} (hw : 1 ≤ w ∧ w ≤ 8) (hh : 1 ≤ h ∧ h ≤ 8) (hk : k < 4) (h0 : gI_ S 0 0 = nI w) (h1 : gI_ S 0 1 = nI h) (hc : ∀ i, i < w * h → aI_ S 41 (64 * k + (j + i)) = nI (cv i) ∧ cv i ≤ 10 ∧ j + i < 64)
    (b0 : ∀ q, q < 64 → aI_ S 1 q = zb (cr q) ∧ aI_ S 2 q = nI (gr q)) :
    ∃ S', lp (fun w35 : Int32 × St => bX12_draw_130 (nI k) (nI j) w35.1 w35.2) 5000 (0, S) = some S' ∧ (∀ q, q < 64 → aI_ S' 1 q = zb (crn w h cv cr (h * w) q) ∧ aI_ S' 2 q = nI (grn w h cv gr (h * w) q)) ∧ Fr (fun a b => a == 1 || a == 2) S S' := by
  have hN : w * h ≤ 64 := Nat.le_trans (Nat.mul_le_mul hw.2 hh.2) (by decide)
  obtain ⟨S', e, r1, r2⟩ := lp_inv (body := fun w35 : Int32 × St => bX12_draw_130 (nI k) (nI j) w35.1 w35.2) (fun i s => s.1 = nI i ∧ Fr (fun a b => a == 1 || a == 2) S s.2 ∧ ∀ q, q < 64 → aI_ s.2 1 q = zb (crn w h cv cr i q) ∧ aI_ s.2 2 q = nI (grn w h cv gr i q)) (fun r => Fr (fun a b => a == 1 || a == 2) S r ∧ ∀ q, q < 64 → aI_ r 1 q = zb (crn w h cv cr (w * h) q) ∧ aI_ r 2 q = nI (grn w h cv gr (w * h) q)) (w * h) (m := 5000) (s := (0, S)) (by omega) ⟨rfl, Fr.refl _ _, fun q hq => by
      unfold crn grn
      rw [if_neg (by omega), if_neg (by omega)]
      exact b0 q hq⟩
    (fun i s hi ⟨k1, k2, k3⟩ => by
      have hn' : ¬ w * h ≤ i := by omega
      have g0 : gI_ s.2 0 0 = nI w := by rw [k2.gI (by simp)]; exact h0
      have g1 : gI_ s.2 0 1 = nI h := by rw [k2.gI (by simp)]; exact h1
      obtain ⟨c1, c2, c3⟩ := hc i hi
      have g2 : aI_ s.2 41 (64 * k + (j + i)) = nI (cv i) := by rw [k2.aI (by simp)]; exact c1
      obtain ⟨y, x, hx, ei, hy⟩ : ∃ y x, x < w ∧ i = y * w + x ∧ y < h := ⟨i / w, i % w, Nat.mod_lt _ (by omega), by
        have := Nat.div_add_mod i w
        rw [Nat.mul_comm w] at this
        exact this.symm, Nat.div_lt_of_lt_mul hi⟩
      have ed : nI i / nI w = nI y := by
        rw [nI_div (by omega) (by omega), ei, Nat.mul_comm y w, Nat.mul_add_div (by omega), Nat.div_eq_of_lt hx, Nat.add_zero]
      have em : nI i - nI y * nI w = nI x := by
        rw [nI_mul, nI_sub (by omega)]
        congr 1
        omega
      have dv : dv_ (nI w) = some (nI w) := by
        unfold dv_
        rw [if_neg (nI_ne0 (by omega) (by omega))]
      have e1 : (if cv i = 10 then some 1 else some 0 : Option Int32) = some (zb (decide (cv i = 10))) := by
        by_cases z : cv i = 10
        · rw [if_pos z]; simp [z, zb]
        · rw [if_neg z]; simp [z, zb]
      left
      unfold bX12_draw_130
      rw [k1]
      simp only [g0, g1, dv, b1_s, bs_l, bs_r, oI_e, oL_e, oR_e, ed, em]
      simp (disch := omega) only [li_le1, li_le2, li_lt1, li_lt2, li_eq1, li_eq2, li_add1, li_add2, li_sub1, li_sub2, li_mul1, li_mul2, li_div2, nI_leI, nI_ltI, nI_eq, nI_add, nI_sub, nI_mul, nI_div, rI_n, rL_n, rR_n, wI_n, wL_n, li_rI, li_rL, li_rR, li_wI, li_wL, b1_s, bs_l, bs_r, oI_e, oL_e, oR_e, wZ_0, wZ_1, wZ_b, if_true, if_false, not_true_eq_false, not_false_eq_true, hn', Nat.add_assoc, g2, e1]
      have F : ∀ v, Fr (fun a b => a == 1 || a == 2) S (pA_ (pA_ s.2 1 (8 * y + x) (zb (decide (cv i = 10)))) 2 (8 * y + x) v) := fun v => Fr.pA (by simp) (Fr.pA (by simp) k2)
      have K : ∀ v, v = nI (if cv i = 10 then 0 else cv i) → ∀ q, q < 64 → aI_ (pA_ (pA_ s.2 1 (8 * y + x) (zb (decide (cv i = 10)))) 2 (8 * y + x) v) 1 q = zb (crn w h cv cr (i + 1) q) ∧ aI_ (pA_ (pA_ s.2 1 (8 * y + x) (zb (decide (cv i = 10)))) 2 (8 * y + x) v) 2 q = nI (grn w h cv gr (i + 1) q) := fun v hv q hq => by
        subst hv
        simp only [gI_pI, gI_pL, gI_pA, gI_pB, gI_pR, gI_pW, gL_pI, gL_pL, gL_pA, gL_pB, gL_pR, gL_pW, aI_pI, aI_pL, aI_pA, aI_pB, aI_pR, aI_pW, aL_pI, aL_pL, aL_pA, aL_pB, aL_pR, aL_pW, gR_pI, gR_pL, gR_pA, gR_pB, gR_pR, gR_pW, Nat.reduceEqDiff, false_and, if_false, true_and]
        rw [ei, crn_s hw.2 hx hy, grn_s hw.2 hx hy, ← ei]
        by_cases z : q = 8 * y + x
        · simp only [z, if_true, and_self]
        · simp only [z, if_false]; exact k3 q hq
      by_cases z : cv i = 10
      · rw [if_pos z]
        exact ⟨_, rfl, rfl, F _, K _ (by rw [if_pos z]; rfl)⟩
      · rw [if_neg z]
        exact ⟨_, rfl, rfl, F _, K _ (by rw [if_neg z])⟩)
    (fun s ⟨k1, k2, k3⟩ => ⟨s.2, by
      have g0 : gI_ s.2 0 0 = nI w := by rw [k2.gI (by simp)]; exact h0
      have g1 : gI_ s.2 0 1 = nI h := by rw [k2.gI (by simp)]; exact h1
      unfold bX12_draw_130
      rw [k1, g0, g1]
      simp (disch := omega) only [li_le1, li_le2, li_lt1, li_lt2, li_eq1, li_eq2, li_add1, li_add2, li_sub1, li_sub2, li_mul1, li_mul2, li_div2, nI_leI, nI_ltI, nI_eq, nI_add, nI_sub, nI_mul, nI_div, rI_n, rL_n, rR_n, wI_n, wL_n, li_rI, li_rL, li_rR, li_wI, li_wL, b1_s, bs_l, bs_r, oI_e, oL_e, oR_e, wZ_0, wZ_1, wZ_b, if_true, if_false, not_true_eq_false, not_false_eq_true, Nat.le_refl], k2, k3⟩)
  rw [Nat.mul_comm h w]
  exact ⟨S', e, r2, r1⟩
theorem many_m {S : St} {cr : Nat → Bool} (h : ∀ q, q < 64 → aI_ S 1 q = zb (cr q)) : fX12_crackMany S = some (nI (fb_ct cr 64)) := by
  unfold fX12_crackMany
  rw [lp_seq' (m := 5000) (s := ((0 : Int32), (0 : Int32))) (body := fun w21 : Int32 × Int32 => bX12_crackMany_4 S w21.1 w21.2) (fun i => (nI (fb_ct cr i), nI i)) 64 (r := nI (fb_ct cr 64)) rfl (by omega) (fun i hi => by
    have hn' : ¬ 64 ≤ i := by omega
    show bX12_crackMany_4 S (nI (fb_ct cr i)) (nI i) = _
    unfold bX12_crackMany_4
    simp (disch := omega) only [li_le1, li_le2, li_lt1, li_lt2, li_eq1, li_eq2, li_add1, li_add2, li_sub1, li_sub2, li_mul1, li_mul2, li_div2, nI_leI, nI_ltI, nI_eq, nI_add, nI_sub, nI_mul, nI_div, rI_n, rL_n, rR_n, wI_n, wL_n, li_rI, li_rL, li_rR, li_wI, li_wL, b1_s, bs_l, bs_r, oI_e, oL_e, oR_e, wZ_0, wZ_1, wZ_b, if_true, if_false, not_true_eq_false, not_false_eq_true, hn', h i hi, zb_0, fb_ct_succ]
    cases cr i <;> simp) (by
    show bX12_crackMany_4 S (nI (fb_ct cr 64)) (nI 64) = _
    unfold bX12_crackMany_4
    simp (disch := omega) only [li_le1, li_le2, li_lt1, li_lt2, li_eq1, li_eq2, li_add1, li_add2, li_sub1, li_sub2, li_mul1, li_mul2, li_div2, nI_leI, nI_ltI, nI_eq, nI_add, nI_sub, nI_mul, nI_div, rI_n, rL_n, rR_n, wI_n, wL_n, li_rI, li_rL, li_rR, li_wI, li_wL, b1_s, bs_l, bs_r, oI_e, oL_e, oR_e, wZ_0, wZ_1, wZ_b, if_true, if_false, not_true_eq_false, not_false_eq_true, Nat.le_refl])]
  rfl
