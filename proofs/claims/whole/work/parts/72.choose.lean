/-! choose -/
section CHOOSE
variable {gr : Nat → Nat} {cr : Nat → Bool} {dc : Nat → Nat → Bool} {n nw : Nat} {sw sh pr ls : Nat → Nat} {tn : Nat → Bool} {W H : Nat}
def XC (gr : Nat → Nat) (cr : Nat → Bool) (dc : Nat → Nat → Bool) (n nw : Nat) (sw sh pr ls : Nat → Nat) (tn : Nat → Bool) (W H : Nat) (S : St) : Prop :=
  BX S 1 W H cr gr ∧ Shp S 21 5 22 n sw sh pr ls tn ∧ gI_ S 0 5 = nI nw ∧ ∀ i, i < nw → ∀ q, q < 64 → lt_ (aL_ S 36 i) q = dc i q
theorem XC.fr {S S' : St} (h : XC gr cr dc n nw sw sh pr ls tn W H S) (hf : Fr pSa S S') : XC gr cr dc n nw sw sh pr ls tn W H S' :=
  ⟨h.1.fr hf (fun j => rfl) (fun j => rfl), h.2.1.fr hf rfl (fun k j z1 z2 => by simp [pSa]; omega), (hf.gI rfl).trans h.2.2.1, fun i hi q hq => by rw [hf.aL rfl]; exact h.2.2.2 i hi q hq⟩
/-- MOST in a world -/
def bw (gr : Nat → Nat) (cr : Nat → Bool) (dc : Nat → Nat → Bool) (n : Nat) (sw sh pr ls : Nat → Nat) (tn : Nat → Bool) (W H i : Nat) : Nat := bst (pv1 gr (fun q => cr q || dc i q) n sw sh pr ls tn) 0 0 W H
theorem bw_le (sb : ShB n sw sh pr ls) (hW : 1 ≤ W ∧ W ≤ 8) (hH : 1 ≤ H ∧ H ≤ 8) (i : Nat) : bw gr cr dc n sw sh pr ls tn W H i ≤ 128000 := bstp_le sb hW.1 hH.1 hW.2 hH.2
theorem inWorld_x {S : St} {i : Nat} (hX : XC gr cr dc n nw sw sh pr ls tn W H S) (sb : ShB n sw sh pr ls) (hb : GrB gr) (hW : 1 ≤ W ∧ W ≤ 8) (hH : 1 ≤ H ∧ H ≤ 8) (hn : nw ≤ 4) (hi : i < nw) : ∃ S', fX11_mostInWorld S (nI i) = some (nI (bw gr cr dc n sw sh pr ls tn W H i), S') ∧ Fr pSa S S' := by
  obtain ⟨h1, h2, h3, h4⟩ := hX
  obtain ⟨S', e, f, _, _⟩ := weigh1 (S := S) (v := gL_ S 1 2 ||| aL_ S 36 i) (u := fun q => cr q || dc i q) (x0 := 0) (y0 := 0) (w0 := W) (h0 := H) h1 h2 sb hb (fun q hq => by rw [l_or, h1.2.2.1 q hq, h4 i hi q hq]) hW.2 hH.2 (by omega) (by omega) hW.1 hH.1
  refine ⟨S', ?_, f⟩
  have e' : fX6_weigh (pI_ (pB_ S 28 0 (gL_ S 1 2 ||| aL_ S 36 i)) 27 3 1) 0 0 (nI W) (nI H) = _ := e
  have g0 : gI_ (pI_ (pB_ S 28 0 (gL_ S 1 2 ||| aL_ S 36 i)) 27 3 1) 1 0 = nI W := by simp [gI_pI, gI_pL, gI_pA, gI_pB, gI_pR, gI_pW, gL_pI, gL_pL, gL_pA, gL_pB, gL_pR, gL_pW, aI_pI, aI_pL, aI_pA, aI_pB, aI_pR, aI_pW, aL_pI, aL_pL, aL_pA, aL_pB, aL_pR, aL_pW, gR_pI, gR_pL, gR_pA, gR_pB, gR_pR, gR_pW]; exact h1.1
  have g1 : gI_ (pI_ (pB_ S 28 0 (gL_ S 1 2 ||| aL_ S 36 i)) 27 3 1) 1 1 = nI H := by simp [gI_pI, gI_pL, gI_pA, gI_pB, gI_pR, gI_pW, gL_pI, gL_pL, gL_pA, gL_pB, gL_pR, gL_pW, aI_pI, aI_pL, aI_pA, aI_pB, aI_pR, aI_pW, aL_pI, aL_pL, aL_pA, aL_pB, aL_pR, aL_pW, gR_pI, gR_pL, gR_pA, gR_pB, gR_pR, gR_pW]; exact h1.2.1
  unfold fX11_mostInWorld
  rw [rL_n (by omega) (by omega), b1_s, see_e, b1_s, g0, g1, e', b1_s]
  rfl
theorem late_x {S : St} (hX : XC gr cr dc n nw sw sh pr ls tn W H S) (sb : ShB n sw sh pr ls) (hb : GrB gr) (hW : 1 ≤ W ∧ W ≤ 8) (hH : 1 ≤ H ∧ H ≤ 8) (hn : nw ≤ 4) : ∃ S', fX11_late S = some (nI (fb_sm (bw gr cr dc n sw sh pr ls tn W H) nw), S') ∧ Fr pSa S S' := by
  unfold fX11_late
  obtain ⟨r, e, q1, q2⟩ := lp_inv (body := fun w21 : Int32 × Int32 × St => bX11_late_4 w21.1 w21.2.1 w21.2.2) (fun i s => s.1 = nI (fb_sm (bw gr cr dc n sw sh pr ls tn W H) i) ∧ s.2.1 = nI i ∧ Fr pSa S s.2.2) (fun r => r.1 = nI (fb_sm (bw gr cr dc n sw sh pr ls tn W H) nw) ∧ Fr pSa S r.2) nw (m := 5000) (s := (0, 0, S)) (by omega) ⟨rfl, rfl, Fr.refl _ _⟩
    (fun i s hi ⟨k1, k2, k3⟩ => by
      obtain ⟨S2, e2, f2⟩ := inWorld_x (hX.fr k3) sb hb hW hH hn hi
      left
      refine ⟨(nI (fb_sm (bw gr cr dc n sw sh pr ls tn W H) (i + 1)), nI (i + 1), S2), ?_, rfl, rfl, k3.trans f2⟩
      unfold bX11_late_4
      rw [k1, k2, (hX.fr k3).2.2.1, if_neg (nI_ge hi (by omega)), e2, b1_s, nI_add, nI_1, fb_sm_succ])
    (fun s ⟨k1, k2, k3⟩ => ⟨(s.1, s.2.2), by
      unfold bX11_late_4
      rw [k2, (hX.fr k3).2.2.1, if_pos (nI_le (Nat.le_refl _) (by omega))], k1, k3⟩)
  rw [e, b1_s, q1]
  exact ⟨r.2, rfl, q2⟩
theorem greatest_x {S : St} (hX : XC gr cr dc n nw sw sh pr ls tn W H S) (sb : ShB n sw sh pr ls) (hb : GrB gr) (hW : 1 ≤ W ∧ W ≤ 8) (hH : 1 ≤ H ∧ H ≤ 8) (hn : nw ≤ 4) : ∃ S', fX11_greatestOfWorlds S = some (nI (mx0 (bw gr cr dc n sw sh pr ls tn W H) nw), S') ∧ Fr pSa S S' := by
  unfold fX11_greatestOfWorlds
  obtain ⟨r, e, q1, q2⟩ := lp_inv (body := fun w21 : Int32 × Int32 × St => bX11_greatestOfWorlds_4 w21.1 w21.2.1 w21.2.2) (fun i s => s.1 = nI (mx0 (bw gr cr dc n sw sh pr ls tn W H) i) ∧ s.2.1 = nI i ∧ Fr pSa S s.2.2) (fun r => r.1 = nI (mx0 (bw gr cr dc n sw sh pr ls tn W H) nw) ∧ Fr pSa S r.2) nw (m := 5000) (s := (0, 0, S)) (by omega) ⟨rfl, rfl, Fr.refl _ _⟩
    (fun i s hi ⟨k1, k2, k3⟩ => by
      obtain ⟨S2, e2, f2⟩ := inWorld_x (hX.fr k3) sb hb hW hH hn hi
      have l1 : mx0 (bw gr cr dc n sw sh pr ls tn W H) i ≤ 128000 := mx0_le (fun k _ => bw_le sb hW hH k)
      have l2 := bw_le (gr := gr) (cr := cr) (dc := dc) (tn := tn) sb hW hH i
      left
      refine ⟨(nI (mx0 (bw gr cr dc n sw sh pr ls tn W H) (i + 1)), nI (i + 1), S2), ?_, rfl, rfl, k3.trans f2⟩
      unfold bX11_greatestOfWorlds_4
      rw [k1, k2, (hX.fr k3).2.2.1, if_neg (nI_ge hi (by omega)), e2, b1_s, mmax_n (by omega) (by omega), nI_1, mx0])
    (fun s ⟨k1, k2, k3⟩ => ⟨(s.1, s.2.2), by
      unfold bX11_greatestOfWorlds_4
      rw [k2, (hX.fr k3).2.2.1, if_pos (nI_le (Nat.le_refl _) (by omega))], k1, k3⟩)
  rw [e, b1_s, q1]
  exact ⟨r.2, rfl, q2⟩
/-- the least of the worlds 0 .. i -/
def mnw (f : Nat → Nat) : Nat → Nat
  | 0 => f 0
  | i + 1 => min (mnw f i) (f (i + 1))
theorem mnw_le (f : Nat → Nat) {c : Nat} (h : ∀ i, f i ≤ c) : ∀ i, mnw f i ≤ c := by
  intro i
  induction i with
  | zero => exact h 0
  | succ i ih => exact Nat.le_trans (Nat.min_le_left _ _) ih
theorem least_x {S : St} (hX : XC gr cr dc n nw sw sh pr ls tn W H S) (sb : ShB n sw sh pr ls) (hb : GrB gr) (hW : 1 ≤ W ∧ W ≤ 8) (hH : 1 ≤ H ∧ H ≤ 8) (hn : nw ≤ 4) (h1 : 1 ≤ nw) : ∃ S', fX11_leastOfWorlds S = some (nI (mnw (bw gr cr dc n sw sh pr ls tn W H) (nw - 1)), S') ∧ Fr pSa S S' := by
  obtain ⟨S0, e0, f0⟩ := inWorld_x (i := 0) hX sb hb hW hH hn (by omega)
  have e0' : fX11_mostInWorld S 0 = _ := e0
  unfold fX11_leastOfWorlds
  rw [e0', b1_s]
  obtain ⟨r, e, q1, q2⟩ := lp_inv (body := fun w22 : Int32 × Int32 × St => bX11_leastOfWorlds_8 w22.1 w22.2.1 w22.2.2) (fun i s => s.1 = nI (mnw (bw gr cr dc n sw sh pr ls tn W H) i) ∧ s.2.1 = nI (i + 1) ∧ Fr pSa S s.2.2) (fun r => r.1 = nI (mnw (bw gr cr dc n sw sh pr ls tn W H) (nw - 1)) ∧ Fr pSa S r.2) (nw - 1) (m := 5000) (s := (nI (bw gr cr dc n sw sh pr ls tn W H 0), 1, S0)) (by omega) ⟨rfl, rfl, f0⟩
    (fun i s hi ⟨k1, k2, k3⟩ => by
      obtain ⟨S2, e2, f2⟩ := inWorld_x (i := i + 1) (hX.fr k3) sb hb hW hH hn (by omega)
      have l1 := mnw_le (bw gr cr dc n sw sh pr ls tn W H) (fun k => bw_le sb hW hH k) i
      have l2 := bw_le (gr := gr) (cr := cr) (dc := dc) (tn := tn) sb hW hH (i + 1)
      left
      refine ⟨(nI (mnw (bw gr cr dc n sw sh pr ls tn W H) (i + 1)), nI (i + 1 + 1), S2), ?_, rfl, rfl, k3.trans f2⟩
      unfold bX11_leastOfWorlds_8
      rw [k1, k2, (hX.fr k3).2.2.1, if_neg (nI_ge (by omega) (by omega)), e2, b1_s, mmin_n (by omega) (by omega), nI_1, mnw])
    (fun s ⟨k1, k2, k3⟩ => ⟨(s.1, s.2.2), by
      unfold bX11_leastOfWorlds_8
      rw [k2, (hX.fr k3).2.2.1, if_pos (nI_le (by omega) (by omega))], k1, k3⟩)
  rw [e, b1_s, q1]
  exact ⟨r.2, rfl, q2⟩
/-- EARLY -/
def pvE (gr : Nat → Nat) (cr : Nat → Bool) (dc : Nat → Nat → Bool) (n nw : Nat) (sw sh pr ls : Nat → Nat) (tn : Nat → Bool) : Nat → Nat → Nat → Nat → Nat := pvl gr nw (fun v q => cr q || dc v q) n sw sh pr ls tn
theorem early_x {S : St} (hX : XC gr cr dc n nw sw sh pr ls tn W H S) (sb : ShB n sw sh pr ls) (hb : GrB gr) (hW : 1 ≤ W ∧ W ≤ 8) (hH : 1 ≤ H ∧ H ≤ 8) (hn : nw ≤ 4) (h1 : 1 ≤ nw) : ∃ S', fX11_early S = some (nI (bst (pvE gr cr dc n nw sw sh pr ls tn) 0 0 W H), S') ∧ Fr pSa S S' ∧ XW gr nw (fun v q => cr q || dc v q) n sw sh pr ls tn W H S' ∧ Tb (pvE gr cr dc n nw sw sh pr ls tn) 0 0 W H S' (fun _ _ _ _ => True) := by
  obtain ⟨x1, x2, x3, x4⟩ := id hX
  obtain ⟨S1, e1, f1, g1, v1⟩ := lp_inv (body := fun w23 : Int32 × St => bX11_early_23 w23.1 w23.2) (fun i s => s.1 = nI (i + 1) ∧ Fr (fun a b => a == 28 || (a == 27 && b == 3)) S s.2 ∧ gI_ s.2 27 3 = nI (i + 1) ∧ ∀ v, v < i + 1 → ∀ q, q < 64 → lt_ (aL_ s.2 28 v) q = (cr q || dc v q)) (fun r => Fr (fun a b => a == 28 || (a == 27 && b == 3)) S r ∧ gI_ r 27 3 = nI nw ∧ ∀ v, v < nw → ∀ q, q < 64 → lt_ (aL_ r 28 v) q = (cr q || dc v q)) (nw - 1) (m := 5000) (s := (1, pI_ (pB_ S 28 0 (gL_ S 1 2 ||| aL_ S 36 0)) 27 3 1)) (by omega) ⟨rfl, Fr.pI (by simp) (Fr.pB (by simp) (Fr.refl _ _)), by simp [gI_pI, gI_pL, gI_pA, gI_pB, gI_pR, gI_pW, gL_pI, gL_pL, gL_pA, gL_pB, gL_pR, gL_pW, aI_pI, aI_pL, aI_pA, aI_pB, aI_pR, aI_pW, aL_pI, aL_pL, aL_pA, aL_pB, aL_pR, aL_pW, gR_pI, gR_pL, gR_pA, gR_pB, gR_pR, gR_pW]; rfl, fun v hv q hq => by
      obtain rfl : v = 0 := by omega
      simp [gI_pI, gI_pL, gI_pA, gI_pB, gI_pR, gI_pW, gL_pI, gL_pL, gL_pA, gL_pB, gL_pR, gL_pW, aI_pI, aI_pL, aI_pA, aI_pB, aI_pR, aI_pW, aL_pI, aL_pL, aL_pA, aL_pB, aL_pR, aL_pW, gR_pI, gR_pL, gR_pA, gR_pB, gR_pR, gR_pW]
      rw [l_or, x1.2.2.1 q hq, x4 0 (by omega) q hq]⟩
    (fun i s hi ⟨k1, k2, k3, k4⟩ => by
      have g5 : gI_ s.2 0 5 = nI nw := by rw [k2.gI (by simp)]; exact x3
      have ga : aL_ s.2 36 (i + 1) = aL_ S 36 (i + 1) := k2.aL (by simp)
      have gc : gL_ s.2 1 2 = gL_ S 1 2 := k2.gL (by simp)
      left
      refine ⟨(nI (i + 1 + 1), pI_ (pB_ s.2 28 (i + 1) (gL_ s.2 1 2 ||| aL_ s.2 36 (i + 1))) 27 3 (nI (i + 1 + 1))), ?_, rfl, Fr.pI (by simp) (Fr.pB (by simp) k2), by simp [gI_pI, gI_pL, gI_pA, gI_pB, gI_pR, gI_pW, gL_pI, gL_pL, gL_pA, gL_pB, gL_pR, gL_pW, aI_pI, aI_pL, aI_pA, aI_pB, aI_pR, aI_pW, aL_pI, aL_pL, aL_pA, aL_pB, aL_pR, aL_pW, gR_pI, gR_pL, gR_pA, gR_pB, gR_pR, gR_pW], fun v hv q hq => ?_⟩
      · have lt4 : ¬ (4 : Int32) ≤ nI (i + 1) := nI_ge (b := 4) (by omega) (by omega)
        have gg : gI_ (pB_ s.2 28 (i + 1) (gL_ s.2 1 2 ||| aL_ s.2 36 (i + 1))) 27 3 = nI (i + 1) := by simp only [gI_pI, gI_pL, gI_pA, gI_pB, gI_pR, gI_pW, gL_pI, gL_pL, gL_pA, gL_pB, gL_pR, gL_pW, aI_pI, aI_pL, aI_pA, aI_pB, aI_pR, aI_pW, aL_pI, aL_pL, aL_pA, aL_pB, aL_pR, aL_pW, gR_pI, gR_pL, gR_pA, gR_pB, gR_pR, gR_pW]; exact k3
        unfold bX11_early_23 fX6_seeToo
        rw [k1, g5, if_neg (nI_ge (by omega) (by omega)), rL_n (by omega) (by omega), b1_s, k3, if_neg lt4, wL_n (by omega) (by omega), b1_s, gg, oI_e, b1_s, b1_s, nI_1]
      · simp only [gI_pI, gI_pL, gI_pA, gI_pB, gI_pR, gI_pW, gL_pI, gL_pL, gL_pA, gL_pB, gL_pR, gL_pW, aI_pI, aI_pL, aI_pA, aI_pB, aI_pR, aI_pW, aL_pI, aL_pL, aL_pA, aL_pB, aL_pR, aL_pW, gR_pI, gR_pL, gR_pA, gR_pB, gR_pR, gR_pW, true_and]
        by_cases z : v = i + 1
        · rw [if_pos z, gc, ga, l_or, x1.2.2.1 q hq, x4 (i + 1) (by omega) q hq, z]
        · rw [if_neg z]; exact k4 v (by omega) q hq)
    (fun s ⟨k1, k2, k3, k4⟩ => ⟨s.2, by
      have g5 : gI_ s.2 0 5 = nI nw := by rw [k2.gI (by simp)]; exact x3
      unfold bX11_early_23
      rw [k1, g5, if_pos (nI_le (by omega) (by omega))], k2, by rw [k3]; exact congrArg nI (by omega), fun v hv => k4 v (by omega)⟩)
  obtain ⟨S', e, f, x, t⟩ := weigh_x (S := S1) (vc := nw) (vw := fun v q => cr q || dc v q) (pv := pvE gr cr dc n nw sw sh pr ls tn) (x0 := 0) (y0 := 0) (w0 := W) (h0 := H) rfl (x1.fr f1 (fun j => by simp) (fun j => by simp)) (x2.fr f1 (by simp) (fun k j z1 z2 => by simp; omega)) sb hb g1 hn v1 hW.2 hH.2 (by omega) (by omega) hW.1 hH.1
  refine ⟨S', ?_, Fr.trans (f1.mono (by intro a b z; simp [pSa] at z ⊢; omega)) (f.mono (by intro a b z; simp [pSa, pSaw] at z ⊢; omega)), x, t⟩
  have e' : fX6_weigh S1 0 0 (nI W) (nI H) = _ := e
  have gw : gI_ S1 1 0 = nI W := by rw [f1.gI (by simp)]; exact x1.1
  have gh : gI_ S1 1 1 = nI H := by rw [f1.gI (by simp)]; exact x1.2.1
  have r0 : rL_ S 36 4 0 = some (aL_ S 36 0) := rL_n (i := 0) (by omega) (by omega)
  unfold fX11_early
  rw [r0, b1_s, see_e, b1_s, e1, b1_s, gw, gh, e', b1_s]
theorem mostOfA {S : St} {way : Int32} {vc : Nat} {vw : Nat → Nat → Bool} (hc : MC way gr vc vw n sw sh pr ls tn W H S) (sb : ShB n sw sh pr ls) (hb : GrB gr) (hW : 1 ≤ W ∧ W ≤ 8) (hH : 1 ≤ H ∧ H ≤ 8) : ∃ S', fX12_mostOfAll S way = some (nI (bst (pvl gr vc vw n sw sh pr ls tn) 0 0 W H), S') ∧ Fr (fun a _ => a == 11) S S' ∧ TbM (pvl gr vc vw n sw sh pr ls tn) W H S' (fun _ _ _ _ => True) := by
  obtain ⟨S', e, f, t⟩ := fills_m rfl hc sb hb hW hH
  refine ⟨S', ?_, f, t⟩
  have g0 : gI_ S' 0 0 = nI W := by rw [f.gI (by simp)]; exact hc.1
  have g1 : gI_ S' 0 1 = nI H := by rw [f.gI (by simp)]; exact hc.2.1
  have eb : fX12_blockAt S' 0 0 (nI W) (nI H) = some (nI (bl 0 0 W H)) := blockAt_e S' (x := 0) (y := 0) hW.1 hH.1
  unfold fX12_mostOfAll
  rw [e, b1_s, g0, g1, eb, b1_s, rI_n (bl_lt (by omega) (by omega) hW.1 hH.1 hW.2 hH.2) (by omega), b1_s, t 0 0 W H hW.1 hH.1 (by omega) (by omega) trivial]
end CHOOSE
theorem sim_choose : ∀ (SX SM : St) (a1 : Int32), Rel_ SX SM → ∃ (r : Int32) (S1 S2 : St), fX11_choose SX a1 = some (r, S1) ∧ fX12_choose SM a1 = some (r, S2) ∧ Rel_ S1 S2 := by
  intro SX SM a1 h
  obtain ⟨hB, hS, hP, hT, hL, hH, hE⟩ := id h
  obtain ⟨W, H, cr, gr, hb, ha, ⟨nw, dc, hn4, c1, c2, c3⟩⟩ := hB
  obtain ⟨ns, sw, sh, pr, ls, tn, ⟨sb, sx, sm⟩, hk, ho⟩ := hS
  have hW : 1 ≤ W ∧ W ≤ 8 := ⟨hb.1.1, hb.1.2.1⟩
  have hH' : 1 ≤ H ∧ H ≤ 8 := hb.1.2.2
  have hX : XC gr cr dc ns nw sw sh pr ls tn W H SX := ⟨hb.2.2.1, sx, c1, fun i hi q hq => (c3 i q hi hq).1⟩
  unfold fX11_choose fX12_choose
  rw [within_e, (in_e SM a1 0 5 (B := 0) (C := 5) rfl rfl), b1_s, b1_s, c1, c2]
  by_cases d1 : 0 ≤ a1 ∧ a1 ≤ 5
  · have t10 : ¬ (1 : Int32) = 0 := by decide
    rw [if_pos d1, if_neg t10, if_neg t10]
    have z0 : (nI nw = 0) ↔ nw = 0 := nI_eq (b := 0) (by omega) (by omega)
    by_cases d2 : nw = 0
    · rw [if_pos (z0.mpr d2), if_pos (z0.mpr d2)]
      exact ⟨-2, SX, SM, rfl, rfl, h⟩
    · rw [if_neg (fun q => d2 (z0.mp q)), if_neg (fun q => d2 (z0.mp q))]
      have vwk : ∀ {S : St}, Fr (fun a _ => a == 11) SM S → ∀ k, k < nw → VwM S (nI k) (fun q => cr q || dc k q) := fun {S} f k hk => ⟨cr, fun q hq => by rw [f.aI (by simp)]; exact hb.m1 q hq, Or.inr ⟨k, dc k, by omega, rfl, fun q hq => by rw [f.aI (by simp)]; exact (c3 k q hk hq).2, fun q _ => rfl⟩⟩
      have gm : ∀ {S : St}, Fr (fun a _ => a == 11) SM S → gI_ S 0 0 = nI W ∧ gI_ S 0 1 = nI H ∧ Shp S 0 9 6 ns sw sh pr ls tn ∧ (∀ q, q < 64 → aI_ S 2 q = nI (gr q)) ∧ gI_ S 0 4 = nI nw := fun {S} f => ⟨by rw [f.gI (by simp)]; exact hb.2.2.2.1, by rw [f.gI (by simp)]; exact hb.2.2.2.2.1, sm.fr f (by simp) (fun k j z1 z2 => by simp; omega), fun q hq => by rw [f.aI (by simp)]; exact hb.m2 q hq, by rw [f.gI (by simp)]; exact c2⟩
      have bl' : ∀ i, bw gr cr dc ns sw sh pr ls tn W H i ≤ 128000 := fun i => bw_le sb hW hH' i
      obtain ⟨u, eu, u1, u2, u3, u4⟩ := lp_inv (body := fun w22 : Int32 × Int32 × Int32 × Int32 × St => bX12_choose_35 w22.1 w22.2.1 w22.2.2.1 w22.2.2.2.1 w22.2.2.2.2) (fun i s => s.1 = nI (fb_sm (bw gr cr dc ns sw sh pr ls tn W H) i) ∧ s.2.1 = (if i = 0 then -4 else nI (mnw (bw gr cr dc ns sw sh pr ls tn W H) (i - 1))) ∧ s.2.2.1 = nI (mx0 (bw gr cr dc ns sw sh pr ls tn W H) i) ∧ s.2.2.2.1 = nI i ∧ Fr (fun a _ => a == 11) SM s.2.2.2.2) (fun r => r.1 = nI (fb_sm (bw gr cr dc ns sw sh pr ls tn W H) nw) ∧ r.2.1 = nI (mnw (bw gr cr dc ns sw sh pr ls tn W H) (nw - 1)) ∧ r.2.2.1 = nI (mx0 (bw gr cr dc ns sw sh pr ls tn W H) nw) ∧ Fr (fun a _ => a == 11) SM r.2.2.2) nw (m := 5000) (s := (0, (-4), 0, 0, SM)) (by omega) ⟨rfl, rfl, rfl, rfl, Fr.refl _ _⟩
        (fun i s hi ⟨k1, k2, k3, k4, k5⟩ => by
          obtain ⟨g0, g1, g2, g3, g4⟩ := gm k5
          obtain ⟨T, e, f, _⟩ := mostOf1 (S := s.2.2.2.2) (way := nI i) (u := fun q => cr q || dc i q) (mc1 g0 g1 g2 g3 (fun q => by
            have := nI_pos (n := i) (by omega)
            rw [q] at this; exact this (by decide)) (vwk k5 i hi)) sb hb.2.1 hW hH'
          have l1 : mx0 (bw gr cr dc ns sw sh pr ls tn W H) i ≤ 128000 := mx0_le (fun k _ => bl' k)
          have l2 := bl' i
          have eb : bst (pv1 gr (fun q => cr q || dc i q) ns sw sh pr ls tn) 0 0 W H = bw gr cr dc ns sw sh pr ls tn W H i := rfl
          rw [eb] at e
          left
          have least : ((if s.2.1 = -4 then some (nI (bw gr cr dc ns sw sh pr ls tn W H i)) else if s.2.1 ≤ nI (bw gr cr dc ns sw sh pr ls tn W H i) then some s.2.1 else some (nI (bw gr cr dc ns sw sh pr ls tn W H i))) : Option Int32) = some (nI (mnw (bw gr cr dc ns sw sh pr ls tn W H) i)) := by
            rw [k2]
            by_cases c : i = 0
            · subst c; rfl
            · have l3 := mnw_le (bw gr cr dc ns sw sh pr ls tn W H) bl' (i - 1)
              rw [if_neg c, if_neg (fun q => (m4_ne (by omega)).mp q)]
              obtain ⟨j, rfl⟩ : ∃ j, i = j + 1 := ⟨i - 1, by omega⟩
              rw [Nat.add_sub_cancel, mnw]
              rw [Nat.add_sub_cancel] at l3
              by_cases d : mnw (bw gr cr dc ns sw sh pr ls tn W H) j ≤ bw gr cr dc ns sw sh pr ls tn W H (j + 1)
              · rw [if_pos (nI_le d (by omega)), Nat.min_eq_left d]
              · rw [if_neg (nI_ge (by omega) (by omega)), Nat.min_eq_right (by omega)]
          refine ⟨(nI (fb_sm (bw gr cr dc ns sw sh pr ls tn W H) (i + 1)), nI (mnw (bw gr cr dc ns sw sh pr ls tn W H) i), nI (mx0 (bw gr cr dc ns sw sh pr ls tn W H) (i + 1)), nI (i + 1), T), ?_, rfl, ?_, rfl, rfl, k5.trans f⟩
          · unfold bX12_choose_35
            rw [k4, g4, if_neg (nI_ge hi (by omega)), e, b1_s, least, b1_s, k1, k3, nI_add, nI_1, fb_sm_succ, mx0]
            by_cases d : bw gr cr dc ns sw sh pr ls tn W H i ≤ mx0 (bw gr cr dc ns sw sh pr ls tn W H) i
            · rw [if_pos (nI_le d (by omega)), Nat.max_eq_left d]
            · rw [if_neg (nI_ge (by omega) (by omega)), Nat.max_eq_right (by omega)]
          · rw [if_neg (by omega), Nat.add_sub_cancel])
        (fun s ⟨k1, k2, k3, k4, k5⟩ => ⟨(s.1, s.2.1, s.2.2.1, s.2.2.2.2), by
          obtain ⟨g0, g1, g2, g3, g4⟩ := gm k5
          unfold bX12_choose_35
          rw [k4, g4, if_pos (nI_le (Nat.le_refl _) (by omega))], k1, by rw [k2, if_neg d2], k3, k5⟩)
      obtain ⟨g0, g1, g2, g3, g4⟩ := gm u4
      have mcE : MC (-2) gr nw (fun v q => cr q || dc v q) ns sw sh pr ls tn W H u.2.2.2 := ⟨g0, g1, g2, g3, Or.inr ⟨rfl, hn4, g4, fun k hk => vwk u4 k hk⟩⟩
      obtain ⟨T, eT, fT, tT⟩ := mostOfA (S := u.2.2.2) mcE sb hb.2.1 hW hH'
      have eb : bst (pvl gr nw (fun v q => cr q || dc v q) ns sw sh pr ls tn) 0 0 W H = bst (pvE gr cr dc ns nw sw sh pr ls tn) 0 0 W H := rfl
      rw [eb] at eT
      rw [eu, b1_s, eT, b1_s, u1, u2, u3]
      have FM : Fr scM SM T := (u4.trans fT).mono p11_sc
      obtain ⟨j, hj1, hj2, rfl⟩ := in_rng (a := 0) (b := 5) (by omega) d1 (by omega)
      obtain rfl | rfl | rfl | rfl | rfl | rfl : j = 0 ∨ j = 1 ∨ j = 2 ∨ j = 3 ∨ j = 4 ∨ j = 5 := by omega
      · obtain ⟨S', e, f⟩ := late_x hX sb hb.2.1 hW hH' hn4
        rw [e]
        exact ⟨_, _, _, rfl, rfl, keepScr h (f.mono pSa_sc) FM⟩
      · obtain ⟨S', e, f, _, _⟩ := early_x hX sb hb.2.1 hW hH' hn4 (by omega)
        rw [e]
        exact ⟨_, _, _, rfl, rfl, keepScr h (f.mono pSa_sc) FM⟩
      · obtain ⟨S', e, f⟩ := late_x hX sb hb.2.1 hW hH' hn4
        obtain ⟨S2, e2, f2, _, _⟩ := early_x (hX.fr f) sb hb.2.1 hW hH' hn4 (by omega)
        refine ⟨nI (fb_sm (bw gr cr dc ns sw sh pr ls tn W H) nw) - nI (bst (pvE gr cr dc ns nw sw sh pr ls tn) 0 0 W H), S2, T, ?_, rfl, keepScr h ((f.trans f2).mono pSa_sc) FM⟩
        have eX : (b1 (fX11_late SX) fun q26 => b1 (fX11_early q26.2) fun q27 => some (q26.1 - q27.1, q27.2)) = some (nI (fb_sm (bw gr cr dc ns sw sh pr ls tn W H) nw) - nI (bst (pvE gr cr dc ns nw sw sh pr ls tn) 0 0 W H), S2) := by
          rw [e, b1_s]
          show b1 (fX11_early S') _ = _
          rw [e2, b1_s]
        exact eX
      · obtain ⟨S', e, f, x, t⟩ := early_x hX sb hb.2.1 hW hH' hn4 (by omega)
        have dx := decide_x (x := 0) (y := 0) (w := W) (h := H) (vc := nw) rfl x t sb hb.2.1 hn4 hW.2 hH'.2 (by omega) (by omega) hW.1 hH'.1 (Nat.le_refl _) (Nat.le_refl _) (Nat.le_refl _) (Nat.le_refl _)
        have dm := deed_m (x := 0) (y := 0) (w := W) (h := H) rfl (mcE.fr (fT.mono (by intro a b z; simp [pBst] at z ⊢; omega))) tT sb hb.2.1 hW.2 hH'.2 hW.1 hH'.1 (by omega) (by omega)
        obtain ⟨dv, dx', dm'⟩ : ∃ d, fX6_decide S' 0 0 (nI W) (nI H) = some d ∧ fX12_deed T 0 0 (nI W) (nI H) (-2) = some d := ⟨_, dx, dm⟩
        have q0 : gI_ S' 1 0 = nI W := by rw [f.gI rfl]; exact hb.2.2.1.1
        have q1 : gI_ S' 1 1 = nI H := by rw [f.gI rfl]; exact hb.2.2.1.2.1
        have q2 : gI_ T 0 0 = nI W := by rw [fT.gI (by simp)]; exact g0
        have q3 : gI_ T 0 1 = nI H := by rw [fT.gI (by simp)]; exact g1
        have eX : fX11_earlyDeed SX = some (dv, S') := by
          unfold fX11_earlyDeed
          rw [e, b1_s]
          show b1 (fX6_decide S' 0 0 (gI_ S' 1 0) (gI_ S' 1 1)) _ = _
          rw [q0, q1, dx', b1_s]
        have eM : fX12_deed T 0 0 (gI_ T 0 0) (gI_ T 0 1) (-2) = some dv := by
          rw [q2, q3]; exact dm'
        rw [eX, eM]
        exact ⟨_, _, _, rfl, rfl, keepScr h (f.mono pSa_sc) FM⟩
      · obtain ⟨S', e, f⟩ := least_x hX sb hb.2.1 hW hH' hn4 (by omega)
        rw [e]
        exact ⟨_, _, _, rfl, rfl, keepScr h (f.mono pSa_sc) FM⟩
      · obtain ⟨S', e, f⟩ := greatest_x hX sb hb.2.1 hW hH' hn4
        rw [e]
        exact ⟨_, _, _, rfl, rfl, keepScr h (f.mono pSa_sc) FM⟩
  · exact ⟨-1, SX, SM, by rw [if_neg d1]; rfl, by rw [if_neg d1]; rfl, h⟩
