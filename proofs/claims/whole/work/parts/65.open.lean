/-! fits, open -/
def Blk (W H : Nat) (a1 a2 a3 a4 : Int32) : Prop := ∃ x y w h : Nat, a1 = nI x ∧ a2 = nI y ∧ a3 = nI w ∧ a4 = nI h ∧ 1 ≤ w ∧ 1 ≤ h ∧ x + w ≤ W ∧ y + h ≤ H
theorem blk_x {S : St} {k W H : Nat} (h0 : gI_ S k 0 = nI W) (h1 : gI_ S k 1 = nI H) (hW : W ≤ 8) (hH : H ≤ 8) (a1 a2 a3 a4 : Int32) : (fX1_hasBlock k S a1 a2 a3 a4 = some 1 ∧ Blk W H a1 a2 a3 a4) ∨ (fX1_hasBlock k S a1 a2 a3 a4 = some 0 ∧ ¬ Blk W H a1 a2 a3 a4) := by
  unfold fX1_hasBlock
  simp only [within_e, h0, h1, b1_s, bs_l, bs_r, oI_e, oL_e, oR_e, i10]
  by_cases c3 : 1 ≤ a3 ∧ a3 ≤ nI W
  · obtain ⟨w, w1, w2, rfl⟩ := in_rng (a := 1) (b := W) (by omega) c3 (by omega)
    by_cases c4 : 1 ≤ a4 ∧ a4 ≤ nI H
    · obtain ⟨h, h1', h2', rfl⟩ := in_rng (a := 1) (b := H) (by omega) c4 (by omega)
      rw [nI_sub w2, nI_sub h2']
      by_cases c1 : 0 ≤ a1 ∧ a1 ≤ nI (W - w)
      · obtain ⟨x, _, x2, rfl⟩ := in_rng (a := 0) (b := W - w) (by omega) c1 (by omega)
        by_cases c2 : 0 ≤ a2 ∧ a2 ≤ nI (H - h)
        · obtain ⟨y, _, y2, rfl⟩ := in_rng (a := 0) (b := H - h) (by omega) c2 (by omega)
          exact Or.inl ⟨by simp only [c1, c2, c3, c4, not_true_eq_false, not_false_eq_true, if_true, if_false, and_self, true_and, and_true, and_false, false_and], x, y, w, h, rfl, rfl, rfl, rfl, w1, h1', by omega, by omega⟩
        · refine Or.inr ⟨by simp only [c1, c2, c3, c4, not_true_eq_false, not_false_eq_true, if_true, if_false, and_self, true_and, and_true, and_false, false_and], fun ⟨x', y', w', h', e1, e2, e3, e4, z1, z2, z3, z4⟩ => c2 ?_⟩
          have := (nI_eq (show h < 2 ^ 31 by omega) (show h' < 2 ^ 31 by omega)).mp e4
          rw [e2]
          exact ⟨nI_pos' (by omega), nI_le (by omega) (by omega)⟩
      · refine Or.inr ⟨by simp only [c1, c3, c4, not_true_eq_false, not_false_eq_true, if_true, if_false, and_self, true_and, and_true, and_false, false_and], fun ⟨x', y', w', h', e1, e2, e3, e4, z1, z2, z3, z4⟩ => c1 ?_⟩
        have := (nI_eq (show w < 2 ^ 31 by omega) (show w' < 2 ^ 31 by omega)).mp e3
        rw [e1]
        exact ⟨nI_pos' (by omega), nI_le (by omega) (by omega)⟩
    · refine Or.inr ⟨by simp only [c3, c4, not_true_eq_false, not_false_eq_true, if_true, if_false, and_self, true_and, and_true, and_false, false_and], fun ⟨x', y', w', h', e1, e2, e3, e4, z1, z2, z3, z4⟩ => c4 ?_⟩
      rw [e4]
      exact ⟨nI_le (a := 1) z2 (by omega), nI_le (by omega) (by omega)⟩
  · refine Or.inr ⟨by simp only [c3, not_true_eq_false, not_false_eq_true, if_true, if_false, and_self, true_and, and_true, and_false, false_and], fun ⟨x', y', w', h', e1, e2, e3, e4, z1, z2, z3, z4⟩ => c3 ?_⟩
    rw [e3]
    exact ⟨nI_le (a := 1) z1 (by omega), nI_le (by omega) (by omega)⟩
theorem blk_m {S : St} {W H : Nat} (h0 : gI_ S 0 0 = nI W) (h1 : gI_ S 0 1 = nI H) (hW : W ≤ 8) (hH : H ≤ 8) (a1 a2 a3 a4 : Int32) : (fX12_isBlock S a1 a2 a3 a4 = some 1 ∧ Blk W H a1 a2 a3 a4) ∨ (fX12_isBlock S a1 a2 a3 a4 = some 0 ∧ ¬ Blk W H a1 a2 a3 a4) := by
  unfold fX12_isBlock
  rw [isSq_m h0 h1, h0, h1]
  simp only [in_e S a3 1 (nI W - a1) (B := 1) rfl rfl, in_e S a4 1 (nI H - a2) (B := 1) rfl rfl, b1_s, bs_l, bs_r, oI_e, oL_e, oR_e, i10]
  by_cases c : (0 ≤ a1 ∧ a1 ≤ nI W - 1) ∧ (0 ≤ a2 ∧ a2 ≤ nI H - 1)
  · obtain ⟨x, hx, rfl⟩ := (in_nat (by omega)).mp c.1
    obtain ⟨y, hy, rfl⟩ := (in_nat (by omega)).mp c.2
    rw [nI_sub (Nat.le_of_lt hx), nI_sub (Nat.le_of_lt hy)]
    by_cases c3 : 1 ≤ a3 ∧ a3 ≤ nI (W - x)
    · obtain ⟨w, w1, w2, rfl⟩ := in_rng (a := 1) (b := W - x) (by omega) c3 (by omega)
      by_cases c4 : 1 ≤ a4 ∧ a4 ≤ nI (H - y)
      · obtain ⟨h, h1', h2', rfl⟩ := in_rng (a := 1) (b := H - y) (by omega) c4 (by omega)
        exact Or.inl ⟨by simp only [c, c3, c4, not_true_eq_false, not_false_eq_true, if_true, if_false, and_self, true_and, and_true, and_false, false_and], x, y, w, h, rfl, rfl, rfl, rfl, w1, h1', by omega, by omega⟩
      · refine Or.inr ⟨by simp only [c, c3, c4, not_true_eq_false, not_false_eq_true, if_true, if_false, and_self, true_and, and_true, and_false, false_and], fun ⟨x', y', w', h', e1, e2, e3, e4, z1, z2, z3, z4⟩ => c4 ?_⟩
        have := (nI_eq (show y < 2 ^ 31 by omega) (show y' < 2 ^ 31 by omega)).mp e2
        rw [e4]
        exact ⟨nI_le (a := 1) z2 (by omega), nI_le (by omega) (by omega)⟩
    · refine Or.inr ⟨by simp only [c, c3, not_true_eq_false, not_false_eq_true, if_true, if_false, and_self, true_and, and_true, and_false, false_and], fun ⟨x', y', w', h', e1, e2, e3, e4, z1, z2, z3, z4⟩ => c3 ?_⟩
      have := (nI_eq (show x < 2 ^ 31 by omega) (show x' < 2 ^ 31 by omega)).mp e1
      rw [e3]
      exact ⟨nI_le (a := 1) z1 (by omega), nI_le (by omega) (by omega)⟩
  · refine Or.inr ⟨by simp only [c, not_true_eq_false, not_false_eq_true, if_true, if_false, and_self, true_and, and_true, and_false, false_and], fun ⟨x', y', w', h', e1, e2, e3, e4, z1, z2, z3, z4⟩ => c ?_⟩
    rw [e1, e2]
    exact ⟨(in_nat (by omega)).mpr ⟨x', by omega, rfl⟩, (in_nat (by omega)).mpr ⟨y', by omega, rfl⟩⟩
/-- both sides say the same of a block -/
theorem blk_xm {SX SM : St} {W H : Nat} {cr : Nat → Bool} {gr : Nat → Nat} (hb : Brd SX SM W H cr gr) (a1 a2 a3 a4 : Int32) : (fX1_hasBlock 1 SX a1 a2 a3 a4 = some 1 ∧ fX12_isBlock SM a1 a2 a3 a4 = some 1 ∧ Blk W H a1 a2 a3 a4) ∨ (fX1_hasBlock 1 SX a1 a2 a3 a4 = some 0 ∧ fX12_isBlock SM a1 a2 a3 a4 = some 0) := by
  obtain ⟨⟨w1, w2, v1, v2⟩, hg, hx, hm1, hm2, hm⟩ := hb
  rcases blk_x hx.1 hx.2.1 w2 v2 a1 a2 a3 a4 with ⟨e1, b1⟩ | ⟨e1, b1⟩
  · rcases blk_m hm1 hm2 w2 v2 a1 a2 a3 a4 with ⟨e2, b2⟩ | ⟨e2, b2⟩
    · exact Or.inl ⟨e1, e2, b1⟩
    · exact absurd b1 b2
  · rcases blk_m hm1 hm2 w2 v2 a1 a2 a3 a4 with ⟨e2, b2⟩ | ⟨e2, b2⟩
    · exact absurd b2 b1
    · exact Or.inr ⟨e1, e2⟩
theorem vw_alone {S : St} {cr : Nat → Bool} {v : Int32} (h : ∀ q, q < 64 → aI_ S 1 q = zb (cr q)) (hv : v < 0) : VwM S v cr := ⟨cr, h, Or.inl ⟨hv, fun _ _ => rfl⟩⟩
theorem Brd.m1 {SX SM : St} {W H : Nat} {cr : Nat → Bool} {gr : Nat → Nat} (hb : Brd SX SM W H cr gr) : ∀ q, q < 64 → aI_ SM 1 q = zb (cr q) := fun q hq => by have := (hb.2.2.2.2.2 q hq).1; rw [Nat.zero_add] at this; exact this
theorem Brd.m2 {SX SM : St} {W H : Nat} {cr : Nat → Bool} {gr : Nat → Nat} (hb : Brd SX SM W H cr gr) : ∀ q, q < 64 → aI_ SM 2 q = nI (gr q) := fun q hq => by have := (hb.2.2.2.2.2 q hq).2; rw [Nat.zero_add] at this; exact this
theorem sim_fits : ∀ (SX SM : St) (a1 a2 a3 a4 a5 : Int32), Rel_ SX SM → ∃ (r : Int32), fX11_fits SX a1 a2 a3 a4 a5 = some r ∧ fX12_fits SM a1 a2 a3 a4 a5 = some r ∧ Rel_ SX SM := by
  intro SX SM a1 a2 a3 a4 a5 h
  obtain ⟨hB, hS, hP, hT, hL, hH, hE⟩ := id h
  obtain ⟨W, H, cr, gr, hb, ha, hc⟩ := hB
  obtain ⟨ns, sw, sh, pr, ls, tn, ⟨sb, sx, sm⟩, hk, ho⟩ := hS
  have hns := sb.1
  unfold fX11_fits fX12_fits
  rw [has_x sx.1, isShape_m sm.1]
  rcases blk_xm hb a1 a2 a3 a4 with ⟨e1, e2, x, y, w, v, rfl, rfl, rfl, rfl, z1, z2, z3, z4⟩ | ⟨e1, e2⟩
  · rw [e1, e2]
    simp only [b1_s, bs_l, bs_r, oI_e, oL_e, oR_e, i10]
    by_cases c5 : 0 ≤ a5 ∧ a5 ≤ nI ns - 1
    · obtain ⟨s, hs, rfl⟩ := (in_nat (by omega)).mp c5
      obtain ⟨b1, b2, b3, b4⟩ := sb.2 s hs
      obtain ⟨g1, g2, g3, g4, g5⟩ := sx.2 s hs
      have W8 := hb.1.2.1
      have H8 := hb.1.2.2.2
      obtain ⟨u, e3, hu⟩ := snd_x hb.2.2.1.2.2.1 hb.2.2.1.2.2.2 hb.2.1 (x := x) (y := y) (w := w) (h := v) (by omega) (by omega)
      have e4 := fit_m (v := -4) sm sb hb.m2 hb.2.1 (vw_alone hb.m1 (by decide)) hs (x := x) (y := y) (w := w) (h := v) (by omega) (by omega)
      rw [e4]
      simp only [c5, not_true_eq_false, not_false_eq_true, if_true, if_false, and_self, true_and, and_true, and_false, false_and, isOf_x sx sb hs (show w < 2 ^ 31 by omega) (show v < 2 ^ 31 by omega), e3, b1_s, bs_l, bs_r, oI_e, oL_e, oR_e, zb_0]
      simp (disch := omega) only [li_le1, li_le2, li_lt1, li_lt2, li_eq1, li_eq2, li_add1, li_add2, li_sub1, li_sub2, li_mul1, li_mul2, li_div2, nI_leI, nI_ltI, nI_eq, nI_add, nI_sub, nI_mul, nI_div, rI_n, rL_n, rR_n, wI_n, wL_n, li_rI, li_rL, li_rR, li_wI, li_wL, b1_s, bs_l, bs_r, oI_e, oL_e, oR_e, wZ_0, wZ_1, wZ_b, if_true, if_false, not_true_eq_false, not_false_eq_true, g4]
      have z := hu (ls s) b4
      refine ⟨zb (ofSz sw sh tn s w v && (allB (fun q => decide (ls s ≤ gr q)) x y w v && allB (fun q => !cr q) x y w v)), ?_, ?_, h⟩
      · rw [if_neg (by decide)]
        cases ofSz sw sh tn s w v with
        | false => rfl
        | true =>
          rw [if_neg (by simp)]
          by_cases c : u < nI (ls s)
          · rw [if_pos c]
            cases hq : (allB (fun q => decide (ls s ≤ gr q)) x y w v && allB (fun q => !cr q) x y w v) with
            | false => rfl
            | true => exact absurd c (z.mpr hq)
          · rw [if_neg c, z.mp c]; rfl
      · rw [if_neg (by decide)]
        cases (ofSz sw sh tn s w v && (allB (fun q => decide (ls s ≤ gr q)) x y w v && allB (fun q => !cr q) x y w v)) <;> rfl
    · exact ⟨-1, by simp only [c5, not_true_eq_false, not_false_eq_true, if_true, if_false, and_self, true_and, and_true, and_false, false_and]; rw [if_neg (by decide)], by simp only [c5, not_true_eq_false, not_false_eq_true, if_true, if_false, and_self, true_and, and_true, and_false, false_and]; rw [if_neg (by decide)], h⟩
  · rw [e1, e2]
    exact ⟨-1, rfl, rfl, h⟩
/-- some block of this size is sound -/
theorem hasSound_x {S : St} {k W H w h t : Nat} {cr : Nat → Bool} {gr : Nat → Nat} (hx : BX S k W H cr gr) (hb : GrB gr) (hW : W ≤ 8) (hH : H ≤ 8) (hw : 1 ≤ w ∧ w ≤ 8) (hh : 1 ≤ h ∧ h ≤ 8) (ht : t ≤ 9) : ∃ b : Bool, fX1_hasSound k S (nI w) (nI h) (nI t) = some (zb b) ∧ (b = true ↔ ∃ x y, x + w ≤ W ∧ y + h ≤ H ∧ (allB (fun q => decide (t ≤ gr q)) x y w h && allB (fun q => !cr q) x y w h) = true) := by
  unfold fX1_hasSound
  have inner : ∀ y, y + h ≤ H → ∃ u, lp (fun w23 : Int32 => bX1_hasSound_17 k S (nI w) (nI h) (nI t) (nI y) w23) 5000 0 = some u ∧ ((u = .inl () ∧ ∀ x, x + w ≤ W → (allB (fun q => decide (t ≤ gr q)) x y w h && allB (fun q => !cr q) x y w h) = false) ∨ (u = .inr 1 ∧ ∃ x, x + w ≤ W ∧ (allB (fun q => decide (t ≤ gr q)) x y w h && allB (fun q => !cr q) x y w h) = true)) := fun y hy => by
    refine lp_inv (body := fun w23 : Int32 => bX1_hasSound_17 k S (nI w) (nI h) (nI t) (nI y) w23) (fun i s => s = nI i ∧ ∀ x, x < i → x + w ≤ W → (allB (fun q => decide (t ≤ gr q)) x y w h && allB (fun q => !cr q) x y w h) = false) _ (W + 1 - w) (m := 5000) (s := 0) (by omega) ⟨rfl, fun x hx' => absurd hx' (by omega)⟩
      (fun i s hi ⟨k1, k2⟩ => ?_) (fun s ⟨k1, k2⟩ => ?_)
    · subst k1
      have hn' : ¬ W < i + w := by omega
      obtain ⟨u, e3, hu⟩ := snd_x hx.2.2.1 hx.2.2.2 hb (x := i) (y := y) (w := w) (h := h) (by omega) (by omega)
      have z := hu t ht
      unfold bX1_hasSound_17
      rw [hx.1]
      simp (disch := omega) only [li_le1, li_le2, li_lt1, li_lt2, li_eq1, li_eq2, li_add1, li_add2, li_sub1, li_sub2, li_mul1, li_mul2, li_div2, nI_leI, nI_ltI, nI_eq, nI_add, nI_sub, nI_mul, nI_div, rI_n, rL_n, rR_n, wI_n, wL_n, li_rI, li_rL, li_rR, li_wI, li_wL, b1_s, bs_l, bs_r, oI_e, oL_e, oR_e, wZ_0, wZ_1, wZ_b, if_true, if_false, not_true_eq_false, not_false_eq_true, hn', e3]
      by_cases c : u < nI t
      · rw [if_pos c]
        refine Or.inl ⟨_, rfl, rfl, fun x hx' hxw => ?_⟩
        by_cases e : x = i
        · rw [e]
          cases hq : (allB (fun q => decide (t ≤ gr q)) i y w h && allB (fun q => !cr q) i y w h) with
          | false => rfl
          | true => exact absurd c (z.mpr hq)
        · exact k2 x (by omega) hxw
      · rw [if_neg c]
        exact Or.inr ⟨_, rfl, Or.inr ⟨rfl, i, by omega, z.mp c⟩⟩
    · subst k1
      refine ⟨.inl (), ?_, Or.inl ⟨rfl, fun x hxw => k2 x (by omega) hxw⟩⟩
      have hn' : W < W + 1 - w + w := by omega
      unfold bX1_hasSound_17
      rw [hx.1]
      simp (disch := omega) only [li_le1, li_le2, li_lt1, li_lt2, li_eq1, li_eq2, li_add1, li_add2, li_sub1, li_sub2, li_mul1, li_mul2, li_div2, nI_leI, nI_ltI, nI_eq, nI_add, nI_sub, nI_mul, nI_div, rI_n, rL_n, rR_n, wI_n, wL_n, li_rI, li_rL, li_rR, li_wI, li_wL, b1_s, bs_l, bs_r, oI_e, oL_e, oR_e, wZ_0, wZ_1, wZ_b, if_true, if_false, not_true_eq_false, not_false_eq_true, hn']
  obtain ⟨u, e, hu⟩ := lp_inv (body := fun w21 : Int32 => bX1_hasSound_3 k S (nI w) (nI h) (nI t) w21) (fun j s => s = nI j ∧ ∀ x y, y < j → x + w ≤ W → y + h ≤ H → (allB (fun q => decide (t ≤ gr q)) x y w h && allB (fun q => !cr q) x y w h) = false) (fun u => (u = .inl () ∧ ∀ x y, x + w ≤ W → y + h ≤ H → (allB (fun q => decide (t ≤ gr q)) x y w h && allB (fun q => !cr q) x y w h) = false) ∨ (u = .inr 1 ∧ ∃ x y, x + w ≤ W ∧ y + h ≤ H ∧ (allB (fun q => decide (t ≤ gr q)) x y w h && allB (fun q => !cr q) x y w h) = true)) (H + 1 - h) (m := 5000) (s := 0) (by omega) ⟨rfl, fun x y hy => absurd hy (by omega)⟩
    (fun j s hj ⟨k1, k2⟩ => by
      subst k1
      have hn' : ¬ H < j + h := by omega
      obtain ⟨u, e3, hu⟩ := inner j (by omega)
      unfold bX1_hasSound_3
      rw [hx.2.1]
      simp (disch := omega) only [li_le1, li_le2, li_lt1, li_lt2, li_eq1, li_eq2, li_add1, li_add2, li_sub1, li_sub2, li_mul1, li_mul2, li_div2, nI_leI, nI_ltI, nI_eq, nI_add, nI_sub, nI_mul, nI_div, rI_n, rL_n, rR_n, wI_n, wL_n, li_rI, li_rL, li_rR, li_wI, li_wL, b1_s, bs_l, bs_r, oI_e, oL_e, oR_e, wZ_0, wZ_1, wZ_b, if_true, if_false, not_true_eq_false, not_false_eq_true, hn', e3]
      rcases hu with ⟨rfl, z⟩ | ⟨rfl, x, z1, z2⟩
      · refine Or.inl ⟨_, rfl, rfl, fun x y hy hxw hyh => ?_⟩
        by_cases e : y = j
        · rw [e]; exact z x hxw
        · exact k2 x y (by omega) hxw hyh
      · exact Or.inr ⟨_, rfl, Or.inr ⟨rfl, x, j, z1, by omega, z2⟩⟩)
    (fun s ⟨k1, k2⟩ => ⟨.inl (), by
      subst k1
      have hn' : H < H + 1 - h + h := by omega
      unfold bX1_hasSound_3
      rw [hx.2.1]
      simp (disch := omega) only [li_le1, li_le2, li_lt1, li_lt2, li_eq1, li_eq2, li_add1, li_add2, li_sub1, li_sub2, li_mul1, li_mul2, li_div2, nI_leI, nI_ltI, nI_eq, nI_add, nI_sub, nI_mul, nI_div, rI_n, rL_n, rR_n, wI_n, wL_n, li_rI, li_rL, li_rR, li_wI, li_wL, b1_s, bs_l, bs_r, oI_e, oL_e, oR_e, wZ_0, wZ_1, wZ_b, if_true, if_false, not_true_eq_false, not_false_eq_true, hn'], Or.inl ⟨rfl, fun x y hxw hyh => k2 x y (by omega) hxw hyh⟩⟩)
  rw [e]
  rcases hu with ⟨rfl, z⟩ | ⟨rfl, x, y, z1, z2, z3⟩
  · refine ⟨false, rfl, ⟨fun q => (by cases q), fun ⟨x, y, q1, q2, q3⟩ => ?_⟩⟩
    rw [z x y q1 q2] at q3; cases q3
  · exact ⟨true, rfl, ⟨fun _ => ⟨x, y, z1, z2, z3⟩, fun _ => rfl⟩⟩
/-- a shape is open -/
def Opn (W H : Nat) (gr : Nat → Nat) (cr : Nat → Bool) (sw sh ls : Nat → Nat) (tn : Nat → Bool) (s : Nat) : Prop := ∃ x y w h, 1 ≤ w ∧ 1 ≤ h ∧ x + w ≤ W ∧ y + h ≤ H ∧ (ofSz sw sh tn s w h && (allB (fun q => decide (ls s ≤ gr q)) x y w h && allB (fun q => !cr q) x y w h)) = true
theorem open_x {S : St} {W H n s : Nat} {cr : Nat → Bool} {gr : Nat → Nat} {sw sh pr ls : Nat → Nat} {tn : Nat → Bool} (hx : BX S 1 W H cr gr) (hb : GrB gr) (hW : W ≤ 8) (hH : H ≤ 8) (hs : Shp S 21 5 22 n sw sh pr ls tn) (sb : ShB n sw sh pr ls) (h1 : s < n) : ∃ b : Bool, fX11_isOpen S (nI s) = some (zb b) ∧ (b = true ↔ Opn W H gr cr sw sh ls tn s) := by
  have hn := sb.1
  obtain ⟨b1, b2, b3, b4⟩ := sb.2 s h1
  obtain ⟨g1, g2, g3, g4, g5⟩ := hs.2 s h1
  obtain ⟨p, e1, hp⟩ := hasSound_x hx hb hW hH b1 b2 b4
  obtain ⟨q, e2, hq⟩ := hasSound_x hx hb hW hH b2 b1 b4
  refine ⟨p || (tn s && q), ?_, ?_⟩
  · unfold fX11_isOpen
    simp (disch := omega) only [li_le1, li_le2, li_lt1, li_lt2, li_eq1, li_eq2, li_add1, li_add2, li_sub1, li_sub2, li_mul1, li_mul2, li_div2, nI_leI, nI_ltI, nI_eq, nI_add, nI_sub, nI_mul, nI_div, rI_n, rL_n, rR_n, wI_n, wL_n, li_rI, li_rL, li_rR, li_wI, li_wL, b1_s, bs_l, bs_r, oI_e, oL_e, oR_e, wZ_0, wZ_1, wZ_b, if_true, if_false, not_true_eq_false, not_false_eq_true, g1, g2, g4, g5, e1, e2, zb_0]
    cases p <;> cases tn s <;> cases q <;> rfl
  · rw [Bool.or_eq_true, Bool.and_eq_true, hp, hq]
    constructor
    · rintro (⟨x, y, z1, z2, z3⟩ | ⟨ht, x, y, z1, z2, z3⟩)
      · exact ⟨x, y, sw s, sh s, b1.1, b2.1, z1, z2, by rw [Bool.and_eq_true]; exact ⟨by simp [ofSz], z3⟩⟩
      · exact ⟨x, y, sh s, sw s, b2.1, b1.1, z1, z2, by rw [Bool.and_eq_true]; exact ⟨by simp [ofSz, ht], z3⟩⟩
    · rintro ⟨x, y, w, h, z1, z2, z3, z4, z5⟩
      rw [Bool.and_eq_true] at z5
      obtain ⟨o, z6⟩ := z5
      unfold ofSz at o
      simp only [Bool.or_eq_true, Bool.and_eq_true, decide_eq_true_eq] at o
      rcases o with ⟨rfl, rfl⟩ | ⟨⟨ht, rfl⟩, rfl⟩
      · exact Or.inl ⟨x, y, z3, z4, z6⟩
      · exact Or.inr ⟨ht, x, y, z3, z4, z6⟩
theorem open_m {S : St} {W H n s : Nat} {cr : Nat → Bool} {gr : Nat → Nat} {sw sh pr ls : Nat → Nat} {tn : Nat → Bool} (h0 : gI_ S 0 0 = nI W) (h1 : gI_ S 0 1 = nI H) (hc : ∀ q, q < 64 → aI_ S 1 q = zb (cr q)) (hg : ∀ q, q < 64 → aI_ S 2 q = nI (gr q)) (hb : GrB gr) (hW : W ≤ 8) (hH : H ≤ 8) (hs : Shp S 0 9 6 n sw sh pr ls tn) (sb : ShB n sw sh pr ls) (hsn : s < n) : ∃ b : Bool, fX12_isOpen S (nI s) = some (zb b) ∧ (b = true ↔ Opn W H gr cr sw sh ls tn s) := by
  have hn := sb.1
  unfold fX12_isOpen
  obtain ⟨good, hgood⟩ : ∃ good : Nat → Prop, good = fun k => k / 64 % 8 + 1 + k % 8 ≤ W ∧ k / 512 + 1 + k / 8 % 8 ≤ H ∧ (ofSz sw sh tn s (k / 64 % 8 + 1) (k / 512 + 1) && (allB (fun q => decide (ls s ≤ gr q)) (k % 8) (k / 8 % 8) (k / 64 % 8 + 1) (k / 512 + 1) && allB (fun q => !cr q) (k % 8) (k / 8 % 8) (k / 64 % 8 + 1) (k / 512 + 1))) = true := ⟨_, rfl⟩
  obtain ⟨u, e, hu⟩ := lp_inv (body := fun w21 : Int32 × Int32 => bX12_isOpen_4 S (nI s) w21.1 w21.2) (fun i v => (v = (0, nI i) ∧ ∀ k, k < i → ¬ good k) ∨ (v = (1, nI i) ∧ ∃ k, k < i ∧ good k)) (fun u => (u = 0 ∧ ∀ k, k < 4096 → ¬ good k) ∨ (u = 1 ∧ ∃ k, k < 4096 ∧ good k)) 4096 (m := 5000) (s := (0, 0)) (by omega) (Or.inl ⟨rfl, fun k hk => absurd hk (by omega)⟩)
    (fun i v hi hv => by
      have hn' : ¬ 4096 ≤ i := by omega
      rcases hv with ⟨rfl, z⟩ | ⟨rfl, k, hk, z⟩
      · left
        unfold bX12_isOpen_4
        have m0 : nI i - nI i / 8 * 8 = nI (i % 8) := by
          have e : nI i / 8 = nI (i / 8) := nI_div (b := 8) (by omega) (by omega)
          have e2 : nI (i / 8) * 8 = nI (i / 8 * 8) := nI_mul _ 8
          rw [e, e2, nI_sub (by omega)]; congr 1; omega
        have m1 : nI i / 8 - nI i / 8 / 8 * 8 = nI (i / 8 % 8) := by
          have e : nI i / 8 = nI (i / 8) := nI_div (b := 8) (by omega) (by omega)
          have e1 : nI (i / 8) / 8 = nI (i / 8 / 8) := nI_div (b := 8) (by omega) (by omega)
          have e2 : nI (i / 8 / 8) * 8 = nI (i / 8 / 8 * 8) := nI_mul _ 8
          rw [e, e1, e2, nI_sub (by omega)]; congr 1; omega
        have m2 : nI i / 64 - nI i / 64 / 8 * 8 + 1 = nI (i / 64 % 8 + 1) := by
          have e : nI i / 64 = nI (i / 64) := nI_div (b := 64) (by omega) (by omega)
          have e1 : nI (i / 64) / 8 = nI (i / 64 / 8) := nI_div (b := 8) (by omega) (by omega)
          have e2 : nI (i / 64 / 8) * 8 = nI (i / 64 / 8 * 8) := nI_mul _ 8
          rw [e, e1, e2, nI_sub (by omega), nI_1]; congr 1; omega
        have m3 : nI i / 512 + 1 = nI (i / 512 + 1) := by
          have e : nI i / 512 = nI (i / 512) := nI_div (b := 512) (by omega) (by omega)
          rw [e, nI_1]
        simp only [m0, m1, m2, m3]
        simp (disch := omega) only [li_le1, li_le2, li_lt1, li_lt2, li_eq1, li_eq2, li_add1, li_add2, li_sub1, li_sub2, li_mul1, li_mul2, li_div2, nI_leI, nI_ltI, nI_eq, nI_add, nI_sub, nI_mul, nI_div, rI_n, rL_n, rR_n, wI_n, wL_n, li_rI, li_rL, li_rR, li_wI, li_wL, b1_s, bs_l, bs_r, oI_e, oL_e, oR_e, wZ_0, wZ_1, wZ_b, if_true, if_false, not_true_eq_false, not_false_eq_true, hn']
        have bad : ¬ good i → ∀ k, k < i + 1 → ¬ good k := fun q k hk => by
          by_cases e : k = i
          · rw [e]; exact q
          · exact z k (by omega)
        rcases blk_m h0 h1 hW hH (nI (i % 8)) (nI (i / 8 % 8)) (nI (i / 64 % 8 + 1)) (nI (i / 512 + 1)) with ⟨e2, x, y, w, h, q1, q2, q3, q4, q5, q6, q7, q8⟩ | ⟨e2, q⟩
        · have r1 := (nI_eq (show i % 8 < 2 ^ 31 by omega) (show x < 2 ^ 31 by omega)).mp q1
          have r2 := (nI_eq (show i / 8 % 8 < 2 ^ 31 by omega) (show y < 2 ^ 31 by omega)).mp q2
          have r3 := (nI_eq (show i / 64 % 8 + 1 < 2 ^ 31 by omega) (show w < 2 ^ 31 by omega)).mp q3
          have r4 := (nI_eq (show i / 512 + 1 < 2 ^ 31 by omega) (show h < 2 ^ 31 by omega)).mp q4
          have ef := fit_m (v := -4) hs sb hg hb (vw_alone hc (by decide)) hsn (x := i % 8) (y := i / 8 % 8) (w := i / 64 % 8 + 1) (h := i / 512 + 1) (by omega) (by omega)
          rw [e2]
          simp only [b1_s, bs_l, bs_r, oI_e, oL_e, oR_e, isOf_m hs sb hsn (show i / 64 % 8 + 1 < 2 ^ 31 by omega) (show i / 512 + 1 < 2 ^ 31 by omega), ef, zb_0]
          rw [if_neg (by decide)]
          cases ho : ofSz sw sh tn s (i / 64 % 8 + 1) (i / 512 + 1) with
          | false =>
            rw [if_pos rfl]
            refine ⟨_, rfl, Or.inl ⟨rfl, bad ?_⟩⟩
            rw [hgood]; simp only [ho, Bool.false_and]; intro q; cases q.2.2
          | true =>
            rw [if_neg (by simp), Bool.true_and]
            cases hf : (allB (fun q => decide (ls s ≤ gr q)) (i % 8) (i / 8 % 8) (i / 64 % 8 + 1) (i / 512 + 1) && allB (fun q => !cr q) (i % 8) (i / 8 % 8) (i / 64 % 8 + 1) (i / 512 + 1)) with
            | false =>
              rw [if_pos rfl]
              refine ⟨_, rfl, Or.inl ⟨rfl, bad ?_⟩⟩
              rw [hgood]; simp only [ho, hf, Bool.and_false]; intro q; cases q.2.2
            | true =>
              rw [if_neg (by simp)]
              refine ⟨_, rfl, Or.inr ⟨rfl, i, by omega, ?_⟩⟩
              rw [hgood]; exact ⟨by omega, by omega, by simp only [ho, hf, Bool.and_self]⟩
        · rw [e2]
          simp only [b1_s, bs_l, bs_r, oI_e, oL_e, oR_e, if_true]
          refine ⟨_, rfl, Or.inl ⟨rfl, bad ?_⟩⟩
          rw [hgood]
          intro ⟨q1, q2, q3⟩
          exact q ⟨i % 8, i / 8 % 8, i / 64 % 8 + 1, i / 512 + 1, rfl, rfl, rfl, rfl, by omega, by omega, by omega, by omega⟩
      · right
        refine ⟨1, ?_, Or.inr ⟨rfl, k, by omega, z⟩⟩
        unfold bX12_isOpen_4
        simp (disch := omega) only [li_le1, li_le2, li_lt1, li_lt2, li_eq1, li_eq2, li_add1, li_add2, li_sub1, li_sub2, li_mul1, li_mul2, li_div2, nI_leI, nI_ltI, nI_eq, nI_add, nI_sub, nI_mul, nI_div, rI_n, rL_n, rR_n, wI_n, wL_n, li_rI, li_rL, li_rR, li_wI, li_wL, b1_s, bs_l, bs_r, oI_e, oL_e, oR_e, wZ_0, wZ_1, wZ_b, if_true, if_false, not_true_eq_false, not_false_eq_true, hn']
        rw [if_neg (by decide)])
    (fun v hv => by
      rcases hv with ⟨rfl, z⟩ | ⟨rfl, k, hk, z⟩
      · refine ⟨0, ?_, Or.inl ⟨rfl, z⟩⟩
        unfold bX12_isOpen_4
        simp (disch := omega) only [li_le1, li_le2, li_lt1, li_lt2, li_eq1, li_eq2, li_add1, li_add2, li_sub1, li_sub2, li_mul1, li_mul2, li_div2, nI_leI, nI_ltI, nI_eq, nI_add, nI_sub, nI_mul, nI_div, rI_n, rL_n, rR_n, wI_n, wL_n, li_rI, li_rL, li_rR, li_wI, li_wL, b1_s, bs_l, bs_r, oI_e, oL_e, oR_e, wZ_0, wZ_1, wZ_b, if_true, if_false, not_true_eq_false, not_false_eq_true, Nat.le_refl]
      · refine ⟨1, ?_, Or.inr ⟨rfl, k, hk, z⟩⟩
        unfold bX12_isOpen_4
        simp (disch := omega) only [li_le1, li_le2, li_lt1, li_lt2, li_eq1, li_eq2, li_add1, li_add2, li_sub1, li_sub2, li_mul1, li_mul2, li_div2, nI_leI, nI_ltI, nI_eq, nI_add, nI_sub, nI_mul, nI_div, rI_n, rL_n, rR_n, wI_n, wL_n, li_rI, li_rL, li_rR, li_wI, li_wL, b1_s, bs_l, bs_r, oI_e, oL_e, oR_e, wZ_0, wZ_1, wZ_b, if_true, if_false, not_true_eq_false, not_false_eq_true, Nat.le_refl])
  have link : (∃ k, k < 4096 ∧ good k) ↔ Opn W H gr cr sw sh ls tn s := by
    rw [hgood]
    constructor
    · intro ⟨k, hk, q1, q2, q3⟩
      exact ⟨k % 8, k / 8 % 8, k / 64 % 8 + 1, k / 512 + 1, by omega, by omega, by omega, by omega, q3⟩
    · intro ⟨x, y, w, h, q1, q2, q3, q4, q5⟩
      refine ⟨512 * (h - 1) + 64 * (w - 1) + 8 * y + x, by omega, ?_⟩
      have a1 : (512 * (h - 1) + 64 * (w - 1) + 8 * y + x) % 8 = x := by omega
      have a2 : (512 * (h - 1) + 64 * (w - 1) + 8 * y + x) / 8 % 8 = y := by omega
      have a3 : (512 * (h - 1) + 64 * (w - 1) + 8 * y + x) / 64 % 8 + 1 = w := by omega
      have a4 : (512 * (h - 1) + 64 * (w - 1) + 8 * y + x) / 512 + 1 = h := by omega
      simp only [a1, a2, a3, a4]
      exact ⟨by omega, by omega, q5⟩
  rw [e]
  rcases hu with ⟨rfl, z⟩ | ⟨rfl, z⟩
  · exact ⟨false, rfl, ⟨fun q => (by cases q), fun q => by obtain ⟨k, hk, g⟩ := link.mpr q; exact absurd g (z k hk)⟩⟩
  · exact ⟨true, rfl, ⟨fun _ => link.mp z, fun _ => rfl⟩⟩
def opb (o : Nat → Bool) : Nat → Int32
  | 0 => 0
  | s + 1 => if o s then opb o s ||| ((1 : Int32) <<< (nI s &&& 31)) else opb o s
theorem sim_open : ∀ (SX SM : St), Rel_ SX SM → ∃ (r : Int32), fX11_open SX = some r ∧ fX12_open SM = some r ∧ Rel_ SX SM := by
  intro SX SM h
  obtain ⟨hB, hS, hP, hT, hL, hH, hE⟩ := id h
  obtain ⟨W, H, cr, gr, hb, ha, hc⟩ := hB
  obtain ⟨ns, sw, sh, pr, ls, tn, ⟨sb, sx, sm⟩, hk, ho⟩ := hS
  have hns := sb.1
  have ob : ∃ o : Nat → Bool, ∀ s, s < ns → fX11_isOpen SX (nI s) = some (zb (o s)) ∧ fX12_isOpen SM (nI s) = some (zb (o s)) := by
    classical
    refine ⟨fun s => decide (Opn W H gr cr sw sh ls tn s), fun s hs => ?_⟩
    obtain ⟨p, e1, hp⟩ := open_x hb.2.2.1 hb.2.1 hb.1.2.1 hb.1.2.2.2 sx sb hs
    obtain ⟨q, e2, hq⟩ := open_m hb.2.2.2.1 hb.2.2.2.2.1 hb.m1 hb.m2 hb.2.1 hb.1.2.1 hb.1.2.2.2 sm sb hs
    have e3 : p = decide (Opn W H gr cr sw sh ls tn s) := by
      by_cases z : Opn W H gr cr sw sh ls tn s
      · rw [hp.mpr z]; simp [z]
      · cases hpp : p with
        | false => simp [z]
        | true => exact absurd (hp.mp hpp) z
    have e4 : q = decide (Opn W H gr cr sw sh ls tn s) := by
      by_cases z : Opn W H gr cr sw sh ls tn s
      · rw [hq.mpr z]; simp [z]
      · cases hpp : q with
        | false => simp [z]
        | true => exact absurd (hq.mp hpp) z
    rw [e1, e2, e3, e4]
    exact ⟨rfl, rfl⟩
  obtain ⟨o, ho'⟩ := ob
  refine ⟨opb o ns, ?_, ?_, h⟩
  · unfold fX11_open
    rw [lp_seq' (m := 5000) (s := ((0 : Int32), (0 : Int32))) (body := fun w21 : Int32 × Int32 => bX11_open_4 SX w21.1 w21.2) (fun i => (opb o i, nI i)) ns (r := opb o ns) rfl (by omega) (fun i hi => by
      have hn' : ¬ ns ≤ i := by omega
      show bX11_open_4 SX (opb o i) (nI i) = _
      unfold bX11_open_4
      rw [sx.1]
      simp (disch := omega) only [li_le1, li_le2, li_lt1, li_lt2, li_eq1, li_eq2, li_add1, li_add2, li_sub1, li_sub2, li_mul1, li_mul2, li_div2, nI_leI, nI_ltI, nI_eq, nI_add, nI_sub, nI_mul, nI_div, rI_n, rL_n, rR_n, wI_n, wL_n, li_rI, li_rL, li_rR, li_wI, li_wL, b1_s, bs_l, bs_r, oI_e, oL_e, oR_e, wZ_0, wZ_1, wZ_b, if_true, if_false, not_true_eq_false, not_false_eq_true, hn', (ho' i hi).1, zb_0, opb]
      cases o i <;> simp) (by
      show bX11_open_4 SX (opb o ns) (nI ns) = _
      unfold bX11_open_4
      rw [sx.1]
      simp (disch := omega) only [li_le1, li_le2, li_lt1, li_lt2, li_eq1, li_eq2, li_add1, li_add2, li_sub1, li_sub2, li_mul1, li_mul2, li_div2, nI_leI, nI_ltI, nI_eq, nI_add, nI_sub, nI_mul, nI_div, rI_n, rL_n, rR_n, wI_n, wL_n, li_rI, li_rL, li_rR, li_wI, li_wL, b1_s, bs_l, bs_r, oI_e, oL_e, oR_e, wZ_0, wZ_1, wZ_b, if_true, if_false, not_true_eq_false, not_false_eq_true, Nat.le_refl])]
    rfl
  · unfold fX12_open
    rw [lp_seq' (m := 5000) (s := ((0 : Int32), (0 : Int32))) (body := fun w21 : Int32 × Int32 => bX12_open_4 SM w21.1 w21.2) (fun i => (opb o i, nI i)) ns (r := opb o ns) rfl (by omega) (fun i hi => by
      have hn' : ¬ ns ≤ i := by omega
      show bX12_open_4 SM (opb o i) (nI i) = _
      unfold bX12_open_4
      rw [sm.1]
      simp (disch := omega) only [li_le1, li_le2, li_lt1, li_lt2, li_eq1, li_eq2, li_add1, li_add2, li_sub1, li_sub2, li_mul1, li_mul2, li_div2, nI_leI, nI_ltI, nI_eq, nI_add, nI_sub, nI_mul, nI_div, rI_n, rL_n, rR_n, wI_n, wL_n, li_rI, li_rL, li_rR, li_wI, li_wL, b1_s, bs_l, bs_r, oI_e, oL_e, oR_e, wZ_0, wZ_1, wZ_b, if_true, if_false, not_true_eq_false, not_false_eq_true, hn', (ho' i hi).2, zb_0, opb]
      cases o i <;> simp) (by
      show bX12_open_4 SM (opb o ns) (nI ns) = _
      unfold bX12_open_4
      rw [sm.1]
      simp (disch := omega) only [li_le1, li_le2, li_lt1, li_lt2, li_eq1, li_eq2, li_add1, li_add2, li_sub1, li_sub2, li_mul1, li_mul2, li_div2, nI_leI, nI_ltI, nI_eq, nI_add, nI_sub, nI_mul, nI_div, rI_n, rL_n, rR_n, wI_n, wL_n, li_rI, li_rL, li_rR, li_wI, li_wL, b1_s, bs_l, bs_r, oI_e, oL_e, oR_e, wZ_0, wZ_1, wZ_b, if_true, if_false, not_true_eq_false, not_false_eq_true, Nat.le_refl])]
    rfl
