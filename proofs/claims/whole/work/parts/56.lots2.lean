/-! lot, worst, years, dated -/
theorem plain_e (S : St) (v : Int32) : fX12_plain S v = some (mabs_ v) := by
  unfold fX12_plain mabs_
  have e : -v = 0 - v := by
    apply Int32.toBitVec_inj.mp
    show -v.toBitVec = 0#32 - v.toBitVec
    rw [BitVec.zero_sub]
  rw [e]
  split <;> rfl
/-- is a lot of n pipes with the sum s off -/
def offb (n : Nat) (s lim : Int32) : Bool := !(decide (nI n < 2)) && !(decide (mabs_ s ≤ lim * nI n))
/-- what the pipes of a lot are: how many, the sum of drifts -/
def lc (lo : Nat → Nat) (n l : Nat) : Nat := fb_ct (fun p => decide (lo p = l)) n
def ld (lo : Nat → Nat) (dr : Nat → Int32) (n l : Nat) : Int32 := sm32 (fun p => decide (lo p = l)) dr n
theorem isOff_x {S : St} {n l : Nat} {lim : Int32} {lo gd st nm : Nat → Nat} {ag : Nat → Bool} {dr : Nat → Int32} (hp : Pip S 49 6 50 n lo gd st nm ag dr) (hb : PiB n lo gd st nm dr) (hl : l < 2 ^ 31) : fX5_isOff S (nI l) lim = some (zb (offb (lc lo n l) (ld lo dr n l) lim)) := by
  unfold fX5_isOff fX5_distanceOff
  have h2 : ∀ p, p < n → aI_ S 50 p = nI (lo p) ∧ lo p ≤ 5 := fun p hp' => ⟨(hp.2 p hp').1, (hb.2 p hp').1⟩
  rw [many_x hp.1 hb.1 hl h2]
  simp only [b1_s, bs_l, bs_r, oI_e, oL_e, oR_e, sumIn_x (k := 54) hp.1 hb.1 hl h2 (fun p hp' => (hp.2 p hp').2.2.2.2.1)]
  show (if nI (lc lo n l) < 2 then some 0 else if mabs_ (ld lo dr n l) ≤ lim * nI (lc lo n l) then some 0 else some 1) = _
  unfold offb
  by_cases c1 : nI (lc lo n l) < 2
  · simp [c1, zb]
  · by_cases c2 : mabs_ (ld lo dr n l) ≤ lim * nI (lc lo n l)
    · simp [c1, c2, zb]
    · simp [c1, c2, zb]
theorem isOff_m {S : St} {n : Nat} {s lim : Int32} (h1 : gI_ S 0 59 = nI n) (h2 : gI_ S 0 60 = s) (h3 : gI_ S 0 46 = lim) : fX12_isOff S = some (zb (offb n s lim)) := by
  unfold fX12_isOff offb
  rw [h1, h2, h3, plain_e]
  simp only [b1_s, bs_l, bs_r, oI_e, oL_e, oR_e]
  by_cases c1 : nI n < 2
  · simp [c1, zb]
  · by_cases c2 : mabs_ s ≤ lim * nI n
    · simp [c1, c2, zb]
    · simp [c1, c2, zb]
/-- the places where findLot writes -/
def pLot (a b : Nat) : Bool := a == 0 && (decide (59 ≤ b) && decide (b ≤ 63))
theorem keepLot {SX SM S2 : St} (h : Rel_ SX SM) (hf : Fr pLot SM S2) : Rel_ SX S2 := by
  refine h.fr (p := fun _ _ => false) (Fr.refl _ _) hf (fun i _ k j _ => rfl) (fun i hi k j z => ?_)
  match i, hi with
  | 0, _ => simp [plM, Nat.ble_eq] at z; simp [pLot]; omega
  | 1, _ => simp [plM, Nat.ble_eq] at z; simp [pLot]; omega
  | 2, _ => simp [plM, Nat.ble_eq] at z; simp [pLot]; omega
  | 3, _ => simp [plM, Nat.ble_eq] at z; simp [pLot]; omega
  | 4, _ => simp [plM, Nat.ble_eq] at z; simp [pLot]; omega
  | 5, _ => simp [plM, Nat.ble_eq] at z; simp [pLot]; omega
  | 6, _ => simp [plM, Nat.ble_eq] at z; simp [pLot]; omega
theorem sim_lot : ∀ (SX SM : St) (a1 a2 : Int32), Rel_ SX SM → ∃ (r : Int32) (S2 : St), fX11_lot SX a1 a2 = some r ∧ fX12_lot SM a1 a2 = some (r, S2) ∧ Rel_ SX S2 := by
  intro SX SM a1 a2 h
  obtain ⟨hB, hS, hP, hT, hL, hH, hE⟩ := id h
  obtain ⟨n, lo, gd, st, nm, ag, dr, pb, px, pm⟩ := hP
  obtain ⟨L, D, lim, many, fr, to, ba, le, sc, hl, lb, lx, lm⟩ := hL
  unfold fX11_lot fX12_lot
  simp only [within_e, (in_e SM a1 0 5 (B := 0) (C := 5) rfl rfl), (in_e SM a2 0 5 (B := 0) (C := 5) rfl rfl), b1_s, bs_l, bs_r, oI_e, oL_e, oR_e, i10]
  by_cases c1 : 0 ≤ a1 ∧ a1 ≤ 5
  · obtain ⟨l, _, hl5, rfl⟩ := in_rng (a := 0) (b := 5) (by omega) c1 (by omega)
    simp only [c1, not_true_eq_false, not_false_eq_true, if_true, if_false, and_self, true_and, and_true, and_false, false_and]
    by_cases c2 : 0 ≤ a2 ∧ a2 ≤ 5
    · obtain ⟨j, hj1, hj2, rfl⟩ := in_rng (a := 0) (b := 5) (by omega) c2 (by omega)
      have h2 : ∀ p, p < n → aI_ SX 50 p = nI (lo p) ∧ lo p ≤ 5 := fun p hp' => ⟨(px.2 p hp').1, (pb.2 p hp').1⟩
      have hl2 : l < 2 ^ 31 := by omega
      obtain ⟨S2, e0, g1, g2, g3, g4, g5, F⟩ := findLot_m pm pb hl2
      have e1 := many_x px.1 pb.1 hl2 h2
      have e2 := sumIn_x (k := 54) px.1 pb.1 hl2 h2 (fun p hp' => (px.2 p hp').2.2.2.2.1)
      have e3 := sumIn_x (k := 51) px.1 pb.1 hl2 h2 (fun p hp' => (px.2 p hp').2.1)
      have e4 := sumIn_x (k := 52) px.1 pb.1 hl2 h2 (fun p hp' => (px.2 p hp').2.2.1)
      have e5 := run_x px.1 pb.1 hl2 h2 (fun p hp' => (px.2 p hp').2.2.2.2.1)
      have e6 := isOff_x (lim := nI lim) px pb hl2
      have e7 := isOff_m (S := S2) (lim := nI lim) g1 g2 (by rw [F.gI (by simp)]; exact lm.1)
      simp only [c2, not_true_eq_false, not_false_eq_true, if_true, if_false, and_self, true_and, and_true, and_false, false_and, okL_e hl]
      simp (disch := omega) only [li_le1, li_le2, li_lt1, li_lt2, li_eq1, li_eq2, li_add1, li_add2, li_sub1, li_sub2, li_mul1, li_mul2, li_div2, nI_leI, nI_ltI, nI_eq, nI_add, nI_sub, nI_mul, nI_div, rI_n, rL_n, rR_n, wI_n, wL_n, li_rI, li_rL, li_rR, li_wI, li_wL, b1_s, bs_l, bs_r, oI_e, oL_e, oR_e, wZ_0, wZ_1, wZ_b, if_true, if_false, not_true_eq_false, not_false_eq_true, e0, e1, e2, e3, e4, e5, lx.1, e6, e7, g1, g2, g3, g4, g5, zb_0]
      have K : Rel_ SX S2 := keepLot h F
      obtain rfl | rfl | rfl | rfl | rfl | rfl : j = 0 ∨ j = 1 ∨ j = 2 ∨ j = 3 ∨ j = 4 ∨ j = 5 := by omega
      · exact ⟨_, _, rfl, rfl, K⟩
      · exact ⟨_, _, rfl, rfl, K⟩
      · exact ⟨_, _, rfl, rfl, K⟩
      · exact ⟨_, _, rfl, rfl, K⟩
      · have e8 : ∀ (b : Bool), offb (lc lo n l) (ld lo dr n l) (nI lim) = b → offb (fb_ct (fun p => decide (lo p = l)) n) (sm32 (fun p => decide (lo p = l)) dr n) (nI lim) = b := fun b hb => hb
        cases hb : offb (lc lo n l) (ld lo dr n l) (nI lim)
        · rw [e8 _ hb]; exact ⟨0, S2, rfl, rfl, K⟩
        · rw [e8 _ hb]; exact ⟨1, S2, rfl, rfl, K⟩
      · exact ⟨_, _, rfl, rfl, K⟩
    · have d := not_rng (n := 5) (by omega) c2
      simp only [c2, not_true_eq_false, not_false_eq_true, if_true, if_false, and_self, true_and, and_true, and_false, false_and, show ¬ a2 = 0 from d 0 (by omega), show ¬ a2 = 1 from d 1 (by omega), show ¬ a2 = 2 from d 2 (by omega), show ¬ a2 = 3 from d 3 (by omega), show ¬ a2 = 4 from d 4 (by omega), show ¬ a2 = 5 from d 5 (by omega)]
      exact ⟨-10000, SM, rfl, rfl, h⟩
  · exact ⟨-10000, SM, by simp only [c1, not_true_eq_false, not_false_eq_true, if_true, if_false, and_self, true_and, and_true, and_false, false_and], by simp only [c1, not_true_eq_false, not_false_eq_true, if_true, if_false, and_self, true_and, and_true, and_false, false_and], h⟩
/-- the worst of the first lots -/
def wst (c : Nat → Nat) (s : Nat → Int32) (lim : Int32) : Nat → Option Nat
  | 0 => none
  | l + 1 => if offb (c l) (s l) lim then match wst c s lim l with
    | none => some l
    | some w => if mabs_ (s l) * nI (c w) ≤ mabs_ (s w) * nI (c l) then some w else some l
    else wst c s lim l
theorem wst_lt (c : Nat → Nat) (s : Nat → Int32) (lim : Int32) : ∀ l x, wst c s lim l = some x → x < l := by
  intro l
  induction l with
  | zero => intro x h; cases h
  | succ l ih =>
    intro x h
    rw [wst] at h
    by_cases ho : offb (c l) (s l) lim = true
    · rw [if_pos ho] at h
      cases hw : wst c s lim l with
      | none => rw [hw] at h; cases h; omega
      | some v =>
        rw [hw] at h
        have hv := ih v hw
        by_cases z : mabs_ (s l) * nI (c v) ≤ mabs_ (s v) * nI (c l)
        · simp only [z, if_true] at h; cases h; omega
        · simp only [z, if_false] at h; cases h; omega
    · rw [if_neg ho] at h
      have := ih x h; omega
theorem worst_x {S : St} {n L D : Nat} {lim : Int32} {lo gd st nm : Nat → Nat} {ag : Nat → Bool} {dr : Nat → Int32} (hp : Pip S 49 6 50 n lo gd st nm ag dr) (hb : PiB n lo gd st nm dr) (hl : HL S L D) (h5 : gI_ S L 5 = lim) : fX11_worst S = some (sv (wst (lc lo n) (ld lo dr n) lim 6)) := by
  unfold fX11_worst
  have h2 : ∀ p, p < n → aI_ S 50 p = nI (lo p) ∧ lo p ≤ 5 := fun p hp' => ⟨(hp.2 p hp').1, (hb.2 p hp').1⟩
  obtain ⟨r, e, hr⟩ := lp_inv (body := fun w21 : Int32 × Int32 => bX11_worst_5 S w21.1 w21.2) (fun i s => s = (sv (wst (lc lo n) (ld lo dr n) lim i), nI i)) (fun r => r = sv (wst (lc lo n) (ld lo dr n) lim 6)) 6 (m := 5000) (s := ((-4), 0)) (by omega) rfl
    (fun i s hi h => by
      subst h
      have hi2 : i < 2 ^ 31 := by omega
      have hn' : ¬ 6 ≤ i := by omega
      unfold bX11_worst_5
      simp only [okL_e hl]
      simp (disch := omega) only [li_le1, li_le2, li_lt1, li_lt2, li_eq1, li_eq2, li_add1, li_add2, li_sub1, li_sub2, li_mul1, li_mul2, li_div2, nI_leI, nI_ltI, nI_eq, nI_add, nI_sub, nI_mul, nI_div, rI_n, rL_n, rR_n, wI_n, wL_n, li_rI, li_rL, li_rR, li_wI, li_wL, b1_s, bs_l, bs_r, oI_e, oL_e, oR_e, wZ_0, wZ_1, wZ_b, if_true, if_false, not_true_eq_false, not_false_eq_true, hn', h5, isOff_x hp hb hi2, zb_0, sv_m4 (o := wst (lc lo n) (ld lo dr n) lim i) (fun x hx => by have := wst_lt _ _ _ i x hx; omega)]
      left
      rw [wst]
      cases ho : offb (lc lo n i) (ld lo dr n i) lim with
      | false => exact ⟨_, rfl, by simp⟩
      | true =>
        cases hw : wst (lc lo n) (ld lo dr n) lim i with
        | none => exact ⟨_, rfl, by simp [sv]⟩
        | some w =>
          have hw6 := wst_lt _ _ _ i w hw
          have hw2 : w < 2 ^ 31 := by omega
          have ew : fX5_isWorse S (nI i) (nI w) = some (if mabs_ (ld lo dr n i) * nI (lc lo n w) ≤ mabs_ (ld lo dr n w) * nI (lc lo n i) then 0 else 1) := by
            unfold fX5_isWorse fX5_distanceOff
            simp only [many_x hp.1 hb.1 hi2 h2, many_x hp.1 hb.1 hw2 h2, sumIn_x (k := 54) hp.1 hb.1 hi2 h2 (fun p hp' => (hp.2 p hp').2.2.2.2.1), sumIn_x (k := 54) hp.1 hb.1 hw2 h2 (fun p hp' => (hp.2 p hp').2.2.2.2.1), b1_s, bs_l, bs_r, oI_e, oL_e, oR_e]
            show (if mabs_ (ld lo dr n i) * nI (lc lo n w) ≤ mabs_ (ld lo dr n w) * nI (lc lo n i) then some 0 else some 1) = _
            split <;> rfl
          simp only [reduceCtorEq, Bool.true_eq_false, if_false, sv, ew, b1_s, bs_l, bs_r, oI_e, oL_e, oR_e]
          by_cases z : mabs_ (ld lo dr n i) * nI (lc lo n w) ≤ mabs_ (ld lo dr n w) * nI (lc lo n i)
          · exact ⟨(nI w, nI (i + 1)), by simp only [z, if_true], by simp only [z, if_true]⟩
          · exact ⟨(nI i, nI (i + 1)), by simp only [z, if_false]; rw [if_neg (by decide)], by simp only [z, if_false, if_true]⟩)
    (fun s h => by
      subst h
      refine ⟨sv (wst (lc lo n) (ld lo dr n) lim 6), ?_, rfl⟩
      unfold bX11_worst_5
      simp (disch := omega) only [li_le1, li_le2, li_lt1, li_lt2, li_eq1, li_eq2, li_add1, li_add2, li_sub1, li_sub2, li_mul1, li_mul2, li_div2, nI_leI, nI_ltI, nI_eq, nI_add, nI_sub, nI_mul, nI_div, rI_n, rL_n, rR_n, wI_n, wL_n, li_rI, li_rL, li_rR, li_wI, li_wL, b1_s, bs_l, bs_r, oI_e, oL_e, oR_e, wZ_0, wZ_1, wZ_b, if_true, if_false, not_true_eq_false, not_false_eq_true, Nat.le_refl])
  rw [e, hr]
  rfl
theorem worst_m {S : St} {n : Nat} {lim : Int32} {lo gd st nm : Nat → Nat} {ag : Nat → Bool} {dr : Nat → Int32} (hp : Pip S 0 28 22 n lo gd st nm ag dr) (hb : PiB n lo gd st nm dr) (h5 : gI_ S 0 46 = lim) : ∃ S', fX12_worst S = some (sv (wst (lc lo n) (ld lo dr n) lim 6), S') ∧ Fr pLot S S' := by
  unfold fX12_worst
  obtain ⟨r, e, hr1, hr2⟩ := lp_inv (body := fun w21 : Int32 × Int32 × Int32 × Int32 × St => bX12_worst_10 w21.1 w21.2.1 w21.2.2.1 w21.2.2.2.1 w21.2.2.2.2) (fun i s => s.1 = sv (wst (lc lo n) (ld lo dr n) lim i) ∧ (∀ w, wst (lc lo n) (ld lo dr n) lim i = some w → s.2.1 = mabs_ (ld lo dr n w) ∧ s.2.2.1 = nI (lc lo n w)) ∧ s.2.2.2.1 = nI i ∧ Fr pLot S s.2.2.2.2) (fun r => r.1 = sv (wst (lc lo n) (ld lo dr n) lim 6) ∧ Fr pLot S r.2) 6 (m := 5000) (s := ((-4), 0, 1, 0, S)) (by omega) ⟨rfl, fun w hw => (by cases hw), rfl, Fr.refl _ _⟩
    (fun i s hi ⟨k1, k2, k3, k4⟩ => by
      have hi2 : i < 2 ^ 31 := by omega
      have hn' : ¬ 6 ≤ i := by omega
      obtain ⟨S2, e0, g1, g2, g3, g4, g5, F⟩ := findLot_m (S := s.2.2.2.2) (hp.fr k4 rfl (fun k j z1 z2 => by simp [pLot]; omega)) hb hi2
      have F' : Fr pLot S S2 := k4.trans F
      have e7 := isOff_m (S := S2) (lim := lim) g1 g2 (by rw [F'.gI rfl]; exact h5)
      have eo : offb (fb_ct (fun p => decide (lo p = i)) n) (sm32 (fun p => decide (lo p = i)) dr n) lim = offb (lc lo n i) (ld lo dr n i) lim := rfl
      have ec : nI (fb_ct (fun p => decide (lo p = i)) n) = nI (lc lo n i) := rfl
      have ed : sm32 (fun p => decide (lo p = i)) dr n = ld lo dr n i := rfl
      rw [eo] at e7
      rw [ec] at g1
      rw [ed] at g2
      unfold bX12_worst_10
      rw [k1, k3]
      simp only [plain_e]
      simp (disch := omega) only [li_le1, li_le2, li_lt1, li_lt2, li_eq1, li_eq2, li_add1, li_add2, li_sub1, li_sub2, li_mul1, li_mul2, li_div2, nI_leI, nI_ltI, nI_eq, nI_add, nI_sub, nI_mul, nI_div, rI_n, rL_n, rR_n, wI_n, wL_n, li_rI, li_rL, li_rR, li_wI, li_wL, b1_s, bs_l, bs_r, oI_e, oL_e, oR_e, wZ_0, wZ_1, wZ_b, if_true, if_false, not_true_eq_false, not_false_eq_true, hn', e0, e7, g1, g2, zb_0, sv_m4 (o := wst (lc lo n) (ld lo dr n) lim i) (fun x hx => by have := wst_lt _ _ _ i x hx; omega)]
      left
      rw [wst]
      cases ho : offb (lc lo n i) (ld lo dr n i) lim with
      | false => exact ⟨_, rfl, by simp, fun w hw => k2 w (by simpa using hw), rfl, F'⟩
      | true =>
        cases hw : wst (lc lo n) (ld lo dr n) lim i with
        | none => exact ⟨_, rfl, by simp [sv], fun w hw => (by simp at hw; subst hw; exact ⟨rfl, rfl⟩), rfl, F'⟩
        | some w =>
          obtain ⟨k5, k6⟩ := k2 w hw
          rw [k5, k6]
          simp only [reduceCtorEq, Bool.true_eq_false, if_false, if_true]
          by_cases z : mabs_ (ld lo dr n i) * nI (lc lo n w) ≤ mabs_ (ld lo dr n w) * nI (lc lo n i)
          · simp only [z, if_true]; exact ⟨_, rfl, rfl, fun w' hw' => (by cases hw'; exact ⟨rfl, rfl⟩), rfl, F'⟩
          · simp only [z, if_false]; exact ⟨_, rfl, rfl, fun w' hw' => (by cases hw'; exact ⟨rfl, rfl⟩), rfl, F'⟩)
    (fun s ⟨k1, k2, k3, k4⟩ => ⟨(s.1, s.2.2.2.2), by
      unfold bX12_worst_10
      rw [k3]
      simp (disch := omega) only [li_le1, li_le2, li_lt1, li_lt2, li_eq1, li_eq2, li_add1, li_add2, li_sub1, li_sub2, li_mul1, li_mul2, li_div2, nI_leI, nI_ltI, nI_eq, nI_add, nI_sub, nI_mul, nI_div, rI_n, rL_n, rR_n, wI_n, wL_n, li_rI, li_rL, li_rR, li_wI, li_wL, b1_s, bs_l, bs_r, oI_e, oL_e, oR_e, wZ_0, wZ_1, wZ_b, if_true, if_false, not_true_eq_false, not_false_eq_true, Nat.le_refl], k1, k4⟩)
  rw [e]
  refine ⟨r.2, ?_, hr2⟩
  rw [← hr1]
  rfl
theorem sim_worst : ∀ (SX SM : St), Rel_ SX SM → ∃ (r : Int32) (S2 : St), fX11_worst SX = some r ∧ fX12_worst SM = some (r, S2) ∧ Rel_ SX S2 := by
  intro SX SM h
  obtain ⟨hB, hS, hP, hT, hL, hH, hE⟩ := id h
  obtain ⟨n, lo, gd, st, nm, ag, dr, pb, px, pm⟩ := hP
  obtain ⟨L, D, lim, many, fr, to, ba, le, sc, hl, lb, lx, lm⟩ := hL
  obtain ⟨S', e, F⟩ := worst_m pm pb lm.1
  exact ⟨_, S', worst_x px pb hl lx.1, e, keepLot h F⟩
