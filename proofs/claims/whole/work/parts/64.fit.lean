/-! blocks: least grain, cracks; fits -/
def allB (p : Nat → Bool) (x y w h : Nat) : Bool := decide (∀ j, j < h → ∀ i, i < w → p (8 * (y + j) + (x + i)) = true)
theorem allB_t {p : Nat → Bool} {x y w h : Nat} : allB p x y w h = true ↔ ∀ j, j < h → ∀ i, i < w → p (8 * (y + j) + (x + i)) = true := by simp [allB]
theorem lgr_in {S : St} {gr : Nat → Nat} (hg : ∀ q, q < 64 → aI_ S 2 q = nI (gr q)) (hb : GrB gr) {x w r a : Nat} (hx : x + w ≤ 8) (hr : r < 8) (ha : a ≤ 9) : ∃ m, lp (fun w24 : Int32 × Int32 => bX12_leastGrain_19 S (nI x) (nI w) (nI r) w24.1 w24.2) 5000 (nI a, nI x) = some (nI m) ∧ m ≤ 9 ∧ ∀ t, t ≤ m ↔ t ≤ a ∧ ∀ i, i < w → t ≤ gr (8 * r + (x + i)) := by
  obtain ⟨v, e, m, rfl, h1, h2⟩ := lp_inv (body := fun w24 : Int32 × Int32 => bX12_leastGrain_19 S (nI x) (nI w) (nI r) w24.1 w24.2) (fun i s => ∃ m, s = (nI m, nI (x + i)) ∧ m ≤ 9 ∧ ∀ t, t ≤ m ↔ t ≤ a ∧ ∀ i', i' < i → t ≤ gr (8 * r + (x + i'))) (fun v => ∃ m, v = nI m ∧ m ≤ 9 ∧ ∀ t, t ≤ m ↔ t ≤ a ∧ ∀ i, i < w → t ≤ gr (8 * r + (x + i))) w (m := 5000) (s := (nI a, nI x)) (by omega) ⟨a, rfl, ha, fun t => ⟨fun q => ⟨q, fun i hi => absurd hi (by omega)⟩, fun q => q.1⟩⟩
    (fun i s hi ⟨m, hs, hm, ht⟩ => by
      subst hs
      have hn' : ¬ x + w ≤ x + i := by omega
      have g := hg (8 * r + (x + i)) (by omega)
      have b := hb (8 * r + (x + i)) (by omega)
      left
      unfold bX12_leastGrain_19
      simp (disch := omega) only [li_le1, li_le2, li_lt1, li_lt2, li_eq1, li_eq2, li_add1, li_add2, li_sub1, li_sub2, li_mul1, li_mul2, li_div2, nI_leI, nI_ltI, nI_eq, nI_add, nI_sub, nI_mul, nI_div, rI_n, rL_n, rR_n, wI_n, wL_n, li_rI, li_rL, li_rR, li_wI, li_wL, b1_s, bs_l, bs_r, oI_e, oL_e, oR_e, wZ_0, wZ_1, wZ_b, if_true, if_false, not_true_eq_false, not_false_eq_true, hn', g]
      have upd : ∀ m', (m' = min m (gr (8 * r + (x + i)))) → ∀ t, t ≤ m' ↔ t ≤ a ∧ ∀ i', i' < i + 1 → t ≤ gr (8 * r + (x + i')) := fun m' hm' t => by
        have z := ht t
        constructor
        · intro q
          have z2 := z.mp (by omega)
          refine ⟨z2.1, fun i' hi' => ?_⟩
          by_cases e : i' = i
          · rw [e]; omega
          · exact z2.2 i' (by omega)
        · intro ⟨q1, q2⟩
          have z2 := z.mpr ⟨q1, fun i' hi' => q2 i' (by omega)⟩
          have z3 := q2 i (by omega)
          omega
      by_cases c : m ≤ gr (8 * r + (x + i))
      · rw [if_pos c]
        exact ⟨_, rfl, m, rfl, hm, upd m (by omega)⟩
      · rw [if_neg c]
        exact ⟨_, rfl, gr (8 * r + (x + i)), rfl, b, upd _ (by omega)⟩)
    (fun s ⟨m, hs, hm, ht⟩ => ⟨nI m, by
      subst hs
      unfold bX12_leastGrain_19
      simp (disch := omega) only [li_le1, li_le2, li_lt1, li_lt2, li_eq1, li_eq2, li_add1, li_add2, li_sub1, li_sub2, li_mul1, li_mul2, li_div2, nI_leI, nI_ltI, nI_eq, nI_add, nI_sub, nI_mul, nI_div, rI_n, rL_n, rR_n, wI_n, wL_n, li_rI, li_rL, li_rR, li_wI, li_wL, b1_s, bs_l, bs_r, oI_e, oL_e, oR_e, wZ_0, wZ_1, wZ_b, if_true, if_false, not_true_eq_false, not_false_eq_true, Nat.le_refl], m, rfl, hm, ht⟩)
  exact ⟨m, e, h1, h2⟩
theorem lgr_m {S : St} {gr : Nat → Nat} (hg : ∀ q, q < 64 → aI_ S 2 q = nI (gr q)) (hb : GrB gr) {x y w h : Nat} (hx : x + w ≤ 8) (hy : y + h ≤ 8) : ∃ m, fX12_leastGrain S (nI x) (nI y) (nI w) (nI h) = some (nI m) ∧ m ≤ 9 ∧ ∀ t, t ≤ 9 → (t ≤ m ↔ allB (fun q => decide (t ≤ gr q)) x y w h = true) := by
  unfold fX12_leastGrain
  obtain ⟨v, e, m, rfl, h1, h2⟩ := lp_inv (body := fun w21 : Int32 × Int32 => bX12_leastGrain_7 S (nI x) (nI y) (nI w) (nI h) w21.1 w21.2) (fun j s => ∃ m, s = (nI m, nI (y + j)) ∧ m ≤ 9 ∧ ∀ t, t ≤ m ↔ t ≤ 9 ∧ ∀ j', j' < j → ∀ i, i < w → t ≤ gr (8 * (y + j') + (x + i))) (fun v => ∃ m, v = nI m ∧ m ≤ 9 ∧ ∀ t, t ≤ m ↔ t ≤ 9 ∧ ∀ j', j' < h → ∀ i, i < w → t ≤ gr (8 * (y + j') + (x + i))) h (m := 5000) (s := (9, nI y)) (by omega) ⟨9, rfl, by omega, fun t => ⟨fun q => ⟨q, fun i hi => absurd hi (by omega)⟩, fun q => q.1⟩⟩
    (fun j s hj ⟨m, hs, hm, ht⟩ => by
      subst hs
      have hn' : ¬ y + h ≤ y + j := by omega
      obtain ⟨m', e', k1, k2⟩ := lgr_in hg hb hx (show y + j < 8 by omega) hm
      left
      unfold bX12_leastGrain_7
      simp (disch := omega) only [li_le1, li_le2, li_lt1, li_lt2, li_eq1, li_eq2, li_add1, li_add2, li_sub1, li_sub2, li_mul1, li_mul2, li_div2, nI_leI, nI_ltI, nI_eq, nI_add, nI_sub, nI_mul, nI_div, rI_n, rL_n, rR_n, wI_n, wL_n, li_rI, li_rL, li_rR, li_wI, li_wL, b1_s, bs_l, bs_r, oI_e, oL_e, oR_e, wZ_0, wZ_1, wZ_b, if_true, if_false, not_true_eq_false, not_false_eq_true, hn', e']
      refine ⟨_, rfl, m', rfl, k1, fun t => ?_⟩
      rw [k2 t, ht t]
      constructor
      · intro ⟨⟨q1, q2⟩, q3⟩
        refine ⟨q1, fun j' hj' => ?_⟩
        by_cases e : j' = j
        · rw [e]; exact q3
        · exact q2 j' (by omega)
      · intro ⟨q1, q2⟩
        exact ⟨⟨q1, fun j' hj' => q2 j' (by omega)⟩, q2 j (by omega)⟩)
    (fun s ⟨m, hs, hm, ht⟩ => ⟨nI m, by
      subst hs
      unfold bX12_leastGrain_7
      simp (disch := omega) only [li_le1, li_le2, li_lt1, li_lt2, li_eq1, li_eq2, li_add1, li_add2, li_sub1, li_sub2, li_mul1, li_mul2, li_div2, nI_leI, nI_ltI, nI_eq, nI_add, nI_sub, nI_mul, nI_div, rI_n, rL_n, rR_n, wI_n, wL_n, li_rI, li_rL, li_rR, li_wI, li_wL, b1_s, bs_l, bs_r, oI_e, oL_e, oR_e, wZ_0, wZ_1, wZ_b, if_true, if_false, not_true_eq_false, not_false_eq_true, Nat.le_refl], m, rfl, hm, ht⟩)
  rw [e]
  refine ⟨m, rfl, h1, fun t ht => ?_⟩
  rw [h2 t, allB_t]
  simp only [decide_eq_true_eq]
  exact ⟨fun q => q.2, fun q => ⟨ht, q⟩⟩
/-- a view of the cracks, as the reference takes it by a number -/
def VwM (S : St) (v : Int32) (vw : Nat → Bool) : Prop := ∃ cr : Nat → Bool, (∀ q, q < 64 → aI_ S 1 q = zb (cr q)) ∧ ((v < 0 ∧ ∀ q, q < 64 → vw q = cr q) ∨ ∃ (k : Nat) (d : Nat → Bool), k < 4 ∧ v = nI k ∧ (∀ q, q < 64 → aI_ S 3 (64 * k + q) = zb (d q)) ∧ ∀ q, q < 64 → vw q = (cr q || d q))
theorem whl_in {S : St} {v : Int32} {vw : Nat → Bool} (hv : VwM S v vw) {x w r : Nat} {a : Bool} (hx : x + w ≤ 8) (hr : r < 8) : lp (fun w24 : Int32 × Int32 => bX12_isWhole_18 S (nI x) (nI w) v (nI r) w24.1 w24.2) 5000 (zb a, nI x) = some (zb (a && decide (∀ i, i < w → vw (8 * r + (x + i)) = false))) := by
  obtain ⟨u, e, hu⟩ := lp_inv (body := fun w24 : Int32 × Int32 => bX12_isWhole_18 S (nI x) (nI w) v (nI r) w24.1 w24.2) (fun i s => s = (zb (a && decide (∀ i', i' < i → vw (8 * r + (x + i')) = false)), nI (x + i))) (fun u => u = zb (a && decide (∀ i, i < w → vw (8 * r + (x + i)) = false))) w (m := 5000) (s := (zb a, nI x)) (by omega) (by
      have : ∀ (inst : Decidable (∀ i', i' < 0 → vw (8 * r + (x + i')) = false)), @decide _ inst = true := fun inst => decide_eq_true (fun i' hi' => absurd hi' (Nat.not_lt_zero i'))
      simp only [this, Bool.and_true, Nat.add_zero])
    (fun i s hi hs => by
      subst hs
      have hn' : ¬ x + w ≤ x + i := by omega
      left
      unfold bX12_isWhole_18
      simp (disch := omega) only [li_le1, li_le2, li_lt1, li_lt2, li_eq1, li_eq2, li_add1, li_add2, li_sub1, li_sub2, li_mul1, li_mul2, li_div2, nI_leI, nI_ltI, nI_eq, nI_add, nI_sub, nI_mul, nI_div, rI_n, rL_n, rR_n, wI_n, wL_n, li_rI, li_rL, li_rR, li_wI, li_wL, b1_s, bs_l, bs_r, oI_e, oL_e, oR_e, wZ_0, wZ_1, wZ_b, if_true, if_false, not_true_eq_false, not_false_eq_true, hn', zb_0]
      have key : ∀ b : Bool, vw (8 * r + (x + i)) = b → decide (∀ i', i' < i + 1 → vw (8 * r + (x + i')) = false) = (decide (∀ i', i' < i → vw (8 * r + (x + i')) = false) && !b) := fun b hb => by
        have iff : (∀ i', i' < i + 1 → vw (8 * r + (x + i')) = false) ↔ (∀ i', i' < i → vw (8 * r + (x + i')) = false) ∧ vw (8 * r + (x + i)) = false := by
          constructor
          · intro q; exact ⟨fun i' hi' => q i' (by omega), q i (by omega)⟩
          · intro ⟨q1, q2⟩ i' hi'
            by_cases e : i' = i
            · rw [e]; exact q2
            · exact q1 i' (by omega)
        rw [decide_eq_decide.mpr iff, Bool.decide_and, hb]
        cases b <;> simp
      obtain ⟨cr, h1, h2⟩ := hv
      have g := h1 (8 * r + (x + i)) (by omega)
      cases hA : (a && decide (∀ i', i' < i → vw (8 * r + (x + i')) = false)) with
      | false =>
        refine ⟨_, by rw [if_pos rfl], ?_⟩
        rw [key _ rfl, ← Bool.and_assoc, hA]
        rfl
      | true =>
        rw [if_neg (by simp), g]
        simp only [zb_0]
        rcases h2 with ⟨q1, q2⟩ | ⟨k, d, hk, rfl, q3, q4⟩
        · have ev := q2 (8 * r + (x + i)) (by omega)
          cases hc : cr (8 * r + (x + i)) with
          | false =>
            rw [hc] at ev
            refine ⟨_, by rw [if_pos rfl, if_pos q1], ?_⟩
            rw [key _ ev, ← Bool.and_assoc, hA]; rfl
          | true =>
            rw [hc] at ev
            refine ⟨_, by rw [if_neg (by simp)], ?_⟩
            rw [key _ ev, ← Bool.and_assoc, hA]; rfl
        · have ev := q4 (8 * r + (x + i)) (by omega)
          have g3 := q3 (8 * r + (x + i)) (by omega)
          have np : ¬ nI k < 0 := nI_pos (by omega)
          cases hc : cr (8 * r + (x + i)) with
          | false =>
            rw [hc, Bool.false_or] at ev
            rw [if_pos rfl, if_neg np]
            simp (disch := omega) only [li_le1, li_le2, li_lt1, li_lt2, li_eq1, li_eq2, li_add1, li_add2, li_sub1, li_sub2, li_mul1, li_mul2, li_div2, nI_leI, nI_ltI, nI_eq, nI_add, nI_sub, nI_mul, nI_div, rI_n, rL_n, rR_n, wI_n, wL_n, li_rI, li_rL, li_rR, li_wI, li_wL, b1_s, bs_l, bs_r, oI_e, oL_e, oR_e, wZ_0, wZ_1, wZ_b, if_true, if_false, not_true_eq_false, not_false_eq_true, Nat.add_assoc, g3, zb_0]
            cases hd : d (8 * r + (x + i)) with
            | false =>
              rw [hd] at ev
              refine ⟨_, by rw [if_pos rfl], ?_⟩
              rw [key _ ev, ← Bool.and_assoc, hA]; rfl
            | true =>
              rw [hd] at ev
              refine ⟨_, by rw [if_neg (by simp)], ?_⟩
              rw [key _ ev, ← Bool.and_assoc, hA]; rfl
          | true =>
            rw [hc, Bool.true_or] at ev
            refine ⟨_, by rw [if_neg (by simp)], ?_⟩
            rw [key _ ev, ← Bool.and_assoc, hA]; rfl)
    (fun s hs => ⟨_, by
      subst hs
      unfold bX12_isWhole_18
      simp (disch := omega) only [li_le1, li_le2, li_lt1, li_lt2, li_eq1, li_eq2, li_add1, li_add2, li_sub1, li_sub2, li_mul1, li_mul2, li_div2, nI_leI, nI_ltI, nI_eq, nI_add, nI_sub, nI_mul, nI_div, rI_n, rL_n, rR_n, wI_n, wL_n, li_rI, li_rL, li_rR, li_wI, li_wL, b1_s, bs_l, bs_r, oI_e, oL_e, oR_e, wZ_0, wZ_1, wZ_b, if_true, if_false, not_true_eq_false, not_false_eq_true, Nat.le_refl], rfl⟩)
  rw [e, hu]
theorem whl_m {S : St} {v : Int32} {vw : Nat → Bool} (hv : VwM S v vw) {x y w h : Nat} (hx : x + w ≤ 8) (hy : y + h ≤ 8) : fX12_isWhole S (nI x) (nI y) (nI w) (nI h) v = some (zb (allB (fun q => !vw q) x y w h)) := by
  unfold fX12_isWhole
  obtain ⟨u, e, hu⟩ := lp_inv (body := fun w21 : Int32 × Int32 => bX12_isWhole_6 S (nI x) (nI y) (nI w) (nI h) v w21.1 w21.2) (fun j s => s = (zb (decide (∀ j', j' < j → ∀ i, i < w → vw (8 * (y + j') + (x + i)) = false)), nI (y + j))) (fun u => u = zb (decide (∀ j', j' < h → ∀ i, i < w → vw (8 * (y + j') + (x + i)) = false))) h (m := 5000) (s := (1, nI y)) (by omega) (by
      have : ∀ (inst : Decidable (∀ j', j' < 0 → ∀ i, i < w → vw (8 * (y + j') + (x + i)) = false)), @decide _ inst = true := fun inst => decide_eq_true (fun i' hi' => absurd hi' (Nat.not_lt_zero i'))
      simp only [this, Nat.add_zero]; rfl)
    (fun j s hj hs => by
      subst hs
      have hn' : ¬ y + h ≤ y + j := by omega
      left
      unfold bX12_isWhole_6
      simp (disch := omega) only [li_le1, li_le2, li_lt1, li_lt2, li_eq1, li_eq2, li_add1, li_add2, li_sub1, li_sub2, li_mul1, li_mul2, li_div2, nI_leI, nI_ltI, nI_eq, nI_add, nI_sub, nI_mul, nI_div, rI_n, rL_n, rR_n, wI_n, wL_n, li_rI, li_rL, li_rR, li_wI, li_wL, b1_s, bs_l, bs_r, oI_e, oL_e, oR_e, wZ_0, wZ_1, wZ_b, if_true, if_false, not_true_eq_false, not_false_eq_true, hn', whl_in hv hx (show y + j < 8 by omega)]
      refine ⟨_, rfl, ?_⟩
      congr 2
      rw [← Bool.decide_and, decide_eq_decide]
      constructor
      · intro ⟨q1, q2⟩ j' hj'
        by_cases e : j' = j
        · rw [e]; exact q2
        · exact q1 j' (by omega)
      · intro q; exact ⟨fun j' hj' => q j' (by omega), q j (by omega)⟩)
    (fun s hs => ⟨_, by
      subst hs
      unfold bX12_isWhole_6
      simp (disch := omega) only [li_le1, li_le2, li_lt1, li_lt2, li_eq1, li_eq2, li_add1, li_add2, li_sub1, li_sub2, li_mul1, li_mul2, li_div2, nI_leI, nI_ltI, nI_eq, nI_add, nI_sub, nI_mul, nI_div, rI_n, rL_n, rR_n, wI_n, wL_n, li_rI, li_rL, li_rR, li_wI, li_wL, b1_s, bs_l, bs_r, oI_e, oL_e, oR_e, wZ_0, wZ_1, wZ_b, if_true, if_false, not_true_eq_false, not_false_eq_true, Nat.le_refl], rfl⟩)
  rw [e, hu]
  simp only [b1_s, bs_l, bs_r, oI_e, oL_e, oR_e, bz_z]
  congr 2
  unfold allB
  rw [decide_eq_decide]
  simp
theorem fit_m {S : St} {n x y w h s : Nat} {v : Int32} {gr : Nat → Nat} {vw : Nat → Bool} {sw sh pr ls : Nat → Nat} {tn : Nat → Bool} (hs : Shp S 0 9 6 n sw sh pr ls tn) (sb : ShB n sw sh pr ls) (hg : ∀ q, q < 64 → aI_ S 2 q = nI (gr q)) (hb : GrB gr) (hv : VwM S v vw) (h1 : s < n) (hx : x + w ≤ 8) (hy : y + h ≤ 8) : fX12_doesFit S (nI x) (nI y) (nI w) (nI h) (nI s) v = some (zb (ofSz sw sh tn s w h && (allB (fun q => decide (ls s ≤ gr q)) x y w h && allB (fun q => !vw q) x y w h))) := by
  have hn := sb.1
  obtain ⟨b1, b2, b3, b4⟩ := sb.2 s h1
  obtain ⟨g1, g2, g3, g4, g5⟩ := hs.2 s h1
  obtain ⟨m, e, hm, ht⟩ := lgr_m hg hb hx hy
  unfold fX12_doesFit
  simp only [isOf_m hs sb h1 (show w < 2 ^ 31 by omega) (show h < 2 ^ 31 by omega), e, whl_m hv hx hy, b1_s, bs_l, bs_r, oI_e, oL_e, oR_e, zb_0]
  simp (disch := omega) only [li_le1, li_le2, li_lt1, li_lt2, li_eq1, li_eq2, li_add1, li_add2, li_sub1, li_sub2, li_mul1, li_mul2, li_div2, nI_leI, nI_ltI, nI_eq, nI_add, nI_sub, nI_mul, nI_div, rI_n, rL_n, rR_n, wI_n, wL_n, li_rI, li_rL, li_rR, li_wI, li_wL, b1_s, bs_l, bs_r, oI_e, oL_e, oR_e, wZ_0, wZ_1, wZ_b, if_true, if_false, not_true_eq_false, not_false_eq_true, g4]
  have z := ht (ls s) b4
  cases ofSz sw sh tn s w h with
  | false => simp [zb]
  | true =>
    by_cases c : ls s ≤ m
    · rw [if_neg (by simp), if_neg (by omega), z.mp c]
      cases allB (fun q => !vw q) x y w h <;> simp [zb]
    · have : allB (fun q => decide (ls s ≤ gr q)) x y w h = false := by
        cases hq : allB (fun q => decide (ls s ≤ gr q)) x y w h with
        | false => rfl
        | true => exact absurd (z.mpr hq) c
      rw [if_neg (by simp), if_pos (by omega), this]
      rfl
/-- the class's least grain of a block, below 0 with a crack -/
theorem snd_in {S : St} {k : Nat} {cr : Nat → Bool} {gr : Nat → Nat} (hc : ∀ q, q < 64 → lt_ (gL_ S k 2) q = cr q) (hg : ∀ q, q < 64 → aI_ S (k + 1) q = nI (gr q)) (hb : GrB gr) {x w r a : Nat} (hx : x + w ≤ 8) (hr : r < 8) (ha : a ≤ 9) : ∃ u, lp (fun w24 : Int32 × Int32 => bX1_soundness_19 k S (nI x) (nI w) (nI r) w24.1 w24.2) 5000 (nI a, nI x) = some u ∧ ((u = .inr (-1) ∧ ∃ i, i < w ∧ cr (8 * r + (x + i)) = true) ∨ ∃ m, u = .inl (nI m) ∧ m ≤ 9 ∧ (∀ i, i < w → cr (8 * r + (x + i)) = false) ∧ ∀ t, t ≤ m ↔ t ≤ a ∧ ∀ i, i < w → t ≤ gr (8 * r + (x + i))) := by
  exact lp_inv (body := fun w24 : Int32 × Int32 => bX1_soundness_19 k S (nI x) (nI w) (nI r) w24.1 w24.2) (fun i s => ∃ m, s = (nI m, nI (x + i)) ∧ m ≤ 9 ∧ (∀ i', i' < i → cr (8 * r + (x + i')) = false) ∧ ∀ t, t ≤ m ↔ t ≤ a ∧ ∀ i', i' < i → t ≤ gr (8 * r + (x + i'))) _ w (m := 5000) (s := (nI a, nI x)) (by omega) ⟨a, rfl, ha, fun i hi => absurd hi (by omega), fun t => ⟨fun q => ⟨q, fun i hi => absurd hi (by omega)⟩, fun q => q.1⟩⟩
    (fun i s hi ⟨m, hs, hm, hc0, ht⟩ => by
      subst hs
      have hn' : ¬ x + w ≤ x + i := by omega
      have g := hg (8 * r + (x + i)) (by omega)
      have b := hb (8 * r + (x + i)) (by omega)
      have gc := hc (8 * r + (x + i)) (by omega)
      unfold bX1_soundness_19 fX11_squareAt
      simp (disch := omega) only [li_le1, li_le2, li_lt1, li_lt2, li_eq1, li_eq2, li_add1, li_add2, li_sub1, li_sub2, li_mul1, li_mul2, li_div2, nI_leI, nI_ltI, nI_eq, nI_add, nI_sub, nI_mul, nI_div, rI_n, rL_n, rR_n, wI_n, wL_n, li_rI, li_rL, li_rR, li_wI, li_wL, b1_s, bs_l, bs_r, oI_e, oL_e, oR_e, wZ_0, wZ_1, wZ_b, if_true, if_false, not_true_eq_false, not_false_eq_true, hn', bit_e S (show x + i < 8 by omega) hr, gc, zb_1, Nat.mul_comm r 8, g]
      cases hcc : cr (8 * r + (x + i)) with
      | true =>
        right
        exact ⟨_, by rw [if_pos rfl], Or.inl ⟨rfl, i, hi, hcc⟩⟩
      | false =>
        left
        rw [if_neg (by simp), mmin_n (by omega) (by omega)]
        refine ⟨_, rfl, min m (gr (8 * r + (x + i))), rfl, by omega, fun i' hi' => ?_, fun t => ?_⟩
        · by_cases e : i' = i
          · rw [e]; exact hcc
          · exact hc0 i' (by omega)
        · have z := ht t
          constructor
          · intro q
            have z2 := z.mp (by omega)
            refine ⟨z2.1, fun i' hi' => ?_⟩
            by_cases e : i' = i
            · rw [e]; omega
            · exact z2.2 i' (by omega)
          · intro ⟨q1, q2⟩
            have z2 := z.mpr ⟨q1, fun i' hi' => q2 i' (by omega)⟩
            have z3 := q2 i (by omega)
            omega)
    (fun s ⟨m, hs, hm, hc0, ht⟩ => ⟨.inl (nI m), by
      subst hs
      unfold bX1_soundness_19
      simp (disch := omega) only [li_le1, li_le2, li_lt1, li_lt2, li_eq1, li_eq2, li_add1, li_add2, li_sub1, li_sub2, li_mul1, li_mul2, li_div2, nI_leI, nI_ltI, nI_eq, nI_add, nI_sub, nI_mul, nI_div, rI_n, rL_n, rR_n, wI_n, wL_n, li_rI, li_rL, li_rR, li_wI, li_wL, b1_s, bs_l, bs_r, oI_e, oL_e, oR_e, wZ_0, wZ_1, wZ_b, if_true, if_false, not_true_eq_false, not_false_eq_true, Nat.le_refl], Or.inr ⟨m, rfl, hm, hc0, ht⟩⟩)
theorem snd_x {S : St} {k : Nat} {cr : Nat → Bool} {gr : Nat → Nat} (hc : ∀ q, q < 64 → lt_ (gL_ S k 2) q = cr q) (hg : ∀ q, q < 64 → aI_ S (k + 1) q = nI (gr q)) (hb : GrB gr) {x y w h : Nat} (hx : x + w ≤ 8) (hy : y + h ≤ 8) : ∃ u, fX1_soundness k S (nI x) (nI y) (nI w) (nI h) = some u ∧ ∀ t, t ≤ 9 → (¬ u < nI t ↔ (allB (fun q => decide (t ≤ gr q)) x y w h && allB (fun q => !cr q) x y w h) = true) := by
  unfold fX1_soundness
  obtain ⟨u, e, hu⟩ := lp_inv (body := fun w21 : Int32 × Int32 => bX1_soundness_7 k S (nI x) (nI y) (nI w) (nI h) w21.1 w21.2) (fun j s => ∃ m, s = (nI m, nI (y + j)) ∧ m ≤ 9 ∧ (∀ j', j' < j → ∀ i, i < w → cr (8 * (y + j') + (x + i)) = false) ∧ ∀ t, t ≤ m ↔ t ≤ 9 ∧ ∀ j', j' < j → ∀ i, i < w → t ≤ gr (8 * (y + j') + (x + i))) (fun u => (u = .inr (-1) ∧ ∃ j, j < h ∧ ∃ i, i < w ∧ cr (8 * (y + j) + (x + i)) = true) ∨ ∃ m, u = .inl (nI m) ∧ m ≤ 9 ∧ (∀ j, j < h → ∀ i, i < w → cr (8 * (y + j) + (x + i)) = false) ∧ ∀ t, t ≤ m ↔ t ≤ 9 ∧ ∀ j, j < h → ∀ i, i < w → t ≤ gr (8 * (y + j) + (x + i))) h (m := 5000) (s := (9, nI y)) (by omega) ⟨9, rfl, by omega, fun i hi => absurd hi (by omega), fun t => ⟨fun q => ⟨q, fun i hi => absurd hi (by omega)⟩, fun q => q.1⟩⟩
    (fun j s hj ⟨m, hs, hm, hc0, ht⟩ => by
      subst hs
      have hn' : ¬ y + h ≤ y + j := by omega
      obtain ⟨u, e', hu⟩ := snd_in hc hg hb hx (show y + j < 8 by omega) hm
      unfold bX1_soundness_7
      simp (disch := omega) only [li_le1, li_le2, li_lt1, li_lt2, li_eq1, li_eq2, li_add1, li_add2, li_sub1, li_sub2, li_mul1, li_mul2, li_div2, nI_leI, nI_ltI, nI_eq, nI_add, nI_sub, nI_mul, nI_div, rI_n, rL_n, rR_n, wI_n, wL_n, li_rI, li_rL, li_rR, li_wI, li_wL, b1_s, bs_l, bs_r, oI_e, oL_e, oR_e, wZ_0, wZ_1, wZ_b, if_true, if_false, not_true_eq_false, not_false_eq_true, hn', e']
      rcases hu with ⟨rfl, i, hi, z⟩ | ⟨m', rfl, k1, k2, k3⟩
      · right
        exact ⟨_, rfl, Or.inl ⟨rfl, j, hj, i, hi, z⟩⟩
      · left
        refine ⟨_, rfl, m', rfl, k1, fun j' hj' => ?_, fun t => ?_⟩
        · by_cases e : j' = j
          · rw [e]; exact k2
          · exact hc0 j' (by omega)
        · rw [k3 t, ht t]
          constructor
          · intro ⟨⟨q1, q2⟩, q3⟩
            refine ⟨q1, fun j' hj' => ?_⟩
            by_cases e : j' = j
            · rw [e]; exact q3
            · exact q2 j' (by omega)
          · intro ⟨q1, q2⟩
            exact ⟨⟨q1, fun j' hj' => q2 j' (by omega)⟩, q2 j (by omega)⟩)
    (fun s ⟨m, hs, hm, hc0, ht⟩ => ⟨.inl (nI m), by
      subst hs
      unfold bX1_soundness_7
      simp (disch := omega) only [li_le1, li_le2, li_lt1, li_lt2, li_eq1, li_eq2, li_add1, li_add2, li_sub1, li_sub2, li_mul1, li_mul2, li_div2, nI_leI, nI_ltI, nI_eq, nI_add, nI_sub, nI_mul, nI_div, rI_n, rL_n, rR_n, wI_n, wL_n, li_rI, li_rL, li_rR, li_wI, li_wL, b1_s, bs_l, bs_r, oI_e, oL_e, oR_e, wZ_0, wZ_1, wZ_b, if_true, if_false, not_true_eq_false, not_false_eq_true, Nat.le_refl], Or.inr ⟨m, rfl, hm, hc0, ht⟩⟩)
  rw [e]
  rcases hu with ⟨rfl, j, hj, i, hi, z⟩ | ⟨m, rfl, hm, hc0, ht⟩
  · refine ⟨-1, rfl, fun t ht => ?_⟩
    have c : (-1 : Int32) < nI t := by
      rw [fa_lt, nI_toInt (by omega)]
      have : (-1 : Int32).toInt = -1 := by decide
      omega
    have d : allB (fun q => !cr q) x y w h = false := by
      cases hq : allB (fun q => !cr q) x y w h with
      | false => rfl
      | true =>
        have := allB_t.mp hq j hj i hi
        rw [z] at this; cases this
    simp [c, d]
  · refine ⟨nI m, rfl, fun t ht9 => ?_⟩
    have d : allB (fun q => !cr q) x y w h = true := allB_t.mpr (fun j hj i hi => by rw [hc0 j hj i hi]; rfl)
    rw [d, Bool.and_true, allB_t, nI_ltI (by omega) (by omega), Nat.not_lt, ht t]
    simp only [decide_eq_true_eq]
    exact ⟨fun q => q.2, fun q => ⟨ht9, q⟩⟩
