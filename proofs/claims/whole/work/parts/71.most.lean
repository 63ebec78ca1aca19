/-! most, cut, costs, gains -/
def scX (a b : Nat) : Bool := (decide (27 ≤ a) && decide (a ≤ 35)) || (decide (46 ≤ a) && decide (a ≤ 48)) || (a == 42 && (b == 9 || b == 10))
def scM (a _b : Nat) : Bool := a == 11 || a == 12 || a == 20 || a == 21
theorem keepScr {SX SM SX' SM' : St} (h : Rel_ SX SM) (hf : Fr scX SX SX') (hg : Fr scM SM SM') : Rel_ SX' SM' := by
  refine h.fr hf hg (fun i hi k j z => ?_) (fun i hi k j z => ?_)
  · match i, hi with
    | 0, _ => simp [plX, Nat.ble_eq] at z; simp [scX]; omega
    | 1, _ => simp [plX, Nat.ble_eq] at z; simp [scX]; omega
    | 2, _ => simp [plX, Nat.ble_eq] at z; simp [scX]; omega
    | 3, _ => simp [plX, Nat.ble_eq] at z; simp [scX]; omega
    | 4, _ => simp [plX, Nat.ble_eq] at z; simp [scX]; omega
    | 5, _ => simp [plX, Nat.ble_eq] at z; simp [scX]; omega
    | 6, _ => simp [plX, Nat.ble_eq] at z; simp [scX]; omega
  · match i, hi with
    | 0, _ => simp [plM, Nat.ble_eq] at z; simp [scM]; omega
    | 1, _ => simp [plM, Nat.ble_eq] at z; simp [scM]; omega
    | 2, _ => simp [plM, Nat.ble_eq] at z; simp [scM]; omega
    | 3, _ => simp [plM, Nat.ble_eq] at z; simp [scM]; omega
    | 4, _ => simp [plM, Nat.ble_eq] at z; simp [scM]; omega
    | 5, _ => simp [plM, Nat.ble_eq] at z; simp [scM]; omega
    | 6, _ => simp [plM, Nat.ble_eq] at z; simp [scM]; omega
def pSa (a _b : Nat) : Bool := decide (27 ≤ a) && decide (a ≤ 33)
theorem pSa_sc : ∀ k j, scX k j = false → pSa k j = false := by intro a b z; simp [scX, pSa] at z ⊢; omega
theorem p11_sc : ∀ k j, scM k j = false → (fun a (_ : Nat) => a == 11) k j = false := by intro a b z; simp [scM] at z ⊢; omega
theorem see_e (S : St) (v : Int64) : fX6_seeOnly S v = some (pI_ (pB_ S 28 0 v) 27 3 1) := by
  have e : wL_ S 28 4 0 v = some (pB_ S 28 0 v) := wL_n (i := 0) (by omega) (by omega)
  unfold fX6_seeOnly
  rw [e, b1_s, oI_e, b1_s]
section MOST
variable {gr : Nat → Nat} {cr : Nat → Bool} {n : Nat} {sw sh pr ls : Nat → Nat} {tn : Nat → Bool} {W H x0 y0 w0 h0 : Nat}
/-- what is had with one view of the cracks -/
def pv1 (gr : Nat → Nat) (u : Nat → Bool) (n : Nat) (sw sh pr ls : Nat → Nat) (tn : Nat → Bool) : Nat → Nat → Nat → Nat → Nat := pvl gr 1 (fun _ => u) n sw sh pr ls tn
theorem weigh1 {S : St} {v : Int64} {u : Nat → Bool} (hbx : BX S 1 W H cr gr) (hs : Shp S 21 5 22 n sw sh pr ls tn) (sb : ShB n sw sh pr ls) (hb : GrB gr) (hv : ∀ q, q < 64 → lt_ v q = u q) (hW : W ≤ 8) (hH : H ≤ 8) (hx : x0 + w0 ≤ W) (hy : y0 + h0 ≤ H) (hw1 : 1 ≤ w0) (hh1 : 1 ≤ h0) :
    ∃ S', fX6_weigh (pI_ (pB_ S 28 0 v) 27 3 1) (nI x0) (nI y0) (nI w0) (nI h0) = some (nI (bst (pv1 gr u n sw sh pr ls tn) x0 y0 w0 h0), S') ∧ Fr pSa S S' ∧ XW gr 1 (fun _ => u) n sw sh pr ls tn W H S' ∧ Tb (pv1 gr u n sw sh pr ls tn) x0 y0 w0 h0 S' (fun _ _ _ _ => True) := by
  have f0 : Fr (fun a b => a == 28 || (a == 27 && b == 3)) S (pI_ (pB_ S 28 0 v) 27 3 1) := Fr.pI (by simp) (Fr.pB (by simp) (Fr.refl _ _))
  obtain ⟨S', e, f, x, t⟩ := weigh_x (S := pI_ (pB_ S 28 0 v) 27 3 1) (vc := 1) (vw := fun _ => u) (pv := pv1 gr u n sw sh pr ls tn) rfl (hbx.fr f0 (fun j => by simp) (fun j => by simp)) (hs.fr f0 (by simp) (fun k j z1 z2 => by simp; omega)) sb hb (by simp [gI_pI, gI_pL, gI_pA, gI_pB, gI_pR, gI_pW, gL_pI, gL_pL, gL_pA, gL_pB, gL_pR, gL_pW, aI_pI, aI_pL, aI_pA, aI_pB, aI_pR, aI_pW, aL_pI, aL_pL, aL_pA, aL_pB, aL_pR, aL_pW, gR_pI, gR_pL, gR_pA, gR_pB, gR_pR, gR_pW]; rfl) (by omega) (fun v' hv' q hq => by
    obtain rfl : v' = 0 := by omega
    simp [gI_pI, gI_pL, gI_pA, gI_pB, gI_pR, gI_pW, gL_pI, gL_pL, gL_pA, gL_pB, gL_pR, gL_pW, aI_pI, aI_pL, aI_pA, aI_pB, aI_pR, aI_pW, aL_pI, aL_pL, aL_pA, aL_pB, aL_pR, aL_pW, gR_pI, gR_pL, gR_pA, gR_pB, gR_pR, gR_pW]; exact hv q hq) hW hH hx hy hw1 hh1
  exact ⟨S', e, Fr.trans (f0.mono (by intro a b z; simp [pSa] at z ⊢; omega)) (f.mono (by intro a b z; simp [pSa, pSaw] at z ⊢; omega)), x, t⟩
theorem mc1 {S : St} {way : Int32} {u : Nat → Bool} (h0 : gI_ S 0 0 = nI W) (h1 : gI_ S 0 1 = nI H) (hs : Shp S 0 9 6 n sw sh pr ls tn) (hg : ∀ q, q < 64 → aI_ S 2 q = nI (gr q)) (hw : way ≠ -2) (hv : VwM S way u) : MC way gr 1 (fun _ => u) n sw sh pr ls tn W H S := ⟨h0, h1, hs, hg, Or.inl ⟨hw, rfl, hv⟩⟩
theorem fills1 {S : St} {way : Int32} {u : Nat → Bool} (hc : MC way gr 1 (fun _ => u) n sw sh pr ls tn W H S) (sb : ShB n sw sh pr ls) (hb : GrB gr) (hW : 1 ≤ W ∧ W ≤ 8) (hH : 1 ≤ H ∧ H ≤ 8) : ∃ S', fX12_fills S way = some S' ∧ Fr (fun a _ => a == 11) S S' ∧ TbM (pv1 gr u n sw sh pr ls tn) W H S' (fun _ _ _ _ => True) := fills_m rfl hc sb hb hW hH
theorem mostOf1 {S : St} {way : Int32} {u : Nat → Bool} (hc : MC way gr 1 (fun _ => u) n sw sh pr ls tn W H S) (sb : ShB n sw sh pr ls) (hb : GrB gr) (hW : 1 ≤ W ∧ W ≤ 8) (hH : 1 ≤ H ∧ H ≤ 8) : ∃ S', fX12_mostOfAll S way = some (nI (bst (pv1 gr u n sw sh pr ls tn) 0 0 W H), S') ∧ Fr (fun a _ => a == 11) S S' ∧ TbM (pv1 gr u n sw sh pr ls tn) W H S' (fun _ _ _ _ => True) := by
  obtain ⟨S', e, f, t⟩ := fills1 hc sb hb hW hH
  refine ⟨S', ?_, f, t⟩
  have g0 : gI_ S' 0 0 = nI W := by rw [f.gI (by simp)]; exact hc.1
  have g1 : gI_ S' 0 1 = nI H := by rw [f.gI (by simp)]; exact hc.2.1
  have eb : fX12_blockAt S' 0 0 (nI W) (nI H) = some (nI (bl 0 0 W H)) := blockAt_e S' (x := 0) (y := 0) hW.1 hH.1
  unfold fX12_mostOfAll
  rw [e, b1_s, g0, g1, eb, b1_s, rI_n (bl_lt (by omega) (by omega) hW.1 hH.1 hW.2 hH.2) (by omega), b1_s, t 0 0 W H hW.1 hH.1 (by omega) (by omega) trivial]
theorem mostWith1 {S : St} {v : Int64} {u : Nat → Bool} (hbx : BX S 1 W H cr gr) (hs : Shp S 21 5 22 n sw sh pr ls tn) (sb : ShB n sw sh pr ls) (hb : GrB gr) (hv : ∀ q, q < 64 → lt_ v q = u q) (hW : 1 ≤ W ∧ W ≤ 8) (hH : 1 ≤ H ∧ H ≤ 8) : ∃ S', fX11_mostWith S v = some (nI (bst (pv1 gr u n sw sh pr ls tn) 0 0 W H), S') ∧ Fr pSa S S' ∧ XW gr 1 (fun _ => u) n sw sh pr ls tn W H S' ∧ Tb (pv1 gr u n sw sh pr ls tn) 0 0 W H S' (fun _ _ _ _ => True) := by
  obtain ⟨S', e, f, x, t⟩ := weigh1 (x0 := 0) (y0 := 0) (w0 := W) (h0 := H) hbx hs sb hb hv hW.2 hH.2 (by omega) (by omega) hW.1 hH.1
  refine ⟨S', ?_, f, x, t⟩
  have e' : fX6_weigh (pI_ (pB_ S 28 0 v) 27 3 1) 0 0 (nI W) (nI H) = _ := e
  have g0 : gI_ (pI_ (pB_ S 28 0 v) 27 3 1) 1 0 = nI W := by simp [gI_pI, gI_pL, gI_pA, gI_pB, gI_pR, gI_pW, gL_pI, gL_pL, gL_pA, gL_pB, gL_pR, gL_pW, aI_pI, aI_pL, aI_pA, aI_pB, aI_pR, aI_pW, aL_pI, aL_pL, aL_pA, aL_pB, aL_pR, aL_pW, gR_pI, gR_pL, gR_pA, gR_pB, gR_pR, gR_pW]; exact hbx.1
  have g1 : gI_ (pI_ (pB_ S 28 0 v) 27 3 1) 1 1 = nI H := by simp [gI_pI, gI_pL, gI_pA, gI_pB, gI_pR, gI_pW, gL_pI, gL_pL, gL_pA, gL_pB, gL_pR, gL_pW, aI_pI, aI_pL, aI_pA, aI_pB, aI_pR, aI_pW, aL_pI, aL_pL, aL_pA, aL_pB, aL_pR, aL_pW, gR_pI, gR_pL, gR_pA, gR_pB, gR_pR, gR_pW]; exact hbx.2.1
  unfold fX11_mostWith
  rw [see_e, b1_s, g0, g1, e', b1_s]
end MOST
theorem sim_most : ∀ (SX SM : St) (a1 a2 a3 a4 : Int32), Rel_ SX SM → ∃ (r : Int32) (S1 S2 : St), fX11_most SX a1 a2 a3 a4 = some (r, S1) ∧ fX12_most SM a1 a2 a3 a4 = some (r, S2) ∧ Rel_ S1 S2 := by
  intro SX SM a1 a2 a3 a4 h
  obtain ⟨hB, hS, hP, hT, hL, hH, hE⟩ := id h
  obtain ⟨W, H, cr, gr, hb, ha, hc⟩ := hB
  obtain ⟨ns, sw, sh, pr, ls, tn, ⟨sb, sx, sm⟩, hk, ho⟩ := hS
  have hW := hb.1
  unfold fX11_most fX12_most
  rcases blk_xm hb a1 a2 a3 a4 with ⟨e1, e2, x, y, w, v, rfl, rfl, rfl, rfl, z1, z2, z3, z4⟩ | ⟨e1, e2⟩
  · obtain ⟨S', e3, f1, _, _⟩ := weigh1 (x0 := x) (y0 := y) (w0 := w) (h0 := v) hb.2.2.1 sx sb hb.2.1 hb.2.2.1.2.2.1 (by omega) (by omega) z3 z4 z1 z2
    obtain ⟨T', e4, f2, t2⟩ := fills1 (way := -1) (mc1 hb.2.2.2.1 hb.2.2.2.2.1 sm hb.m2 (by decide) (vw_alone hb.m1 (by decide))) sb hb.2.1 ⟨by omega, by omega⟩ ⟨by omega, by omega⟩
    rw [e1, e2, b1_s, b1_s, if_neg (by decide), if_neg (by decide), see_e, b1_s, e3, b1_s, e4, b1_s, blockAt_e T' z1 z2, b1_s, rI_n (bl_lt (by omega) (by omega) z1 z2 (by omega) (by omega)) (by omega), b1_s, t2 x y w v z1 z2 z3 z4 trivial]
    exact ⟨_, _, _, rfl, rfl, keepScr h (f1.mono pSa_sc) (f2.mono p11_sc)⟩
  · rw [e1, e2]
    exact ⟨-1, SX, SM, rfl, rfl, h⟩
theorem sim_cut : ∀ (SX SM : St) (a1 a2 a3 a4 : Int32), Rel_ SX SM → ∃ (r : Int32) (S1 S2 : St), fX11_cut SX a1 a2 a3 a4 = some (r, S1) ∧ fX12_cut SM a1 a2 a3 a4 = some (r, S2) ∧ Rel_ S1 S2 := by
  intro SX SM a1 a2 a3 a4 h
  obtain ⟨hB, hS, hP, hT, hL, hH, hE⟩ := id h
  obtain ⟨W, H, cr, gr, hb, ha, hc⟩ := hB
  obtain ⟨ns, sw, sh, pr, ls, tn, ⟨sb, sx, sm⟩, hk, ho⟩ := hS
  have hW := hb.1
  unfold fX11_cut fX12_cut
  rcases blk_xm hb a1 a2 a3 a4 with ⟨e1, e2, x, y, w, v, rfl, rfl, rfl, rfl, z1, z2, z3, z4⟩ | ⟨e1, e2⟩
  · obtain ⟨S', e3, f1, x1, t1⟩ := weigh1 (x0 := x) (y0 := y) (w0 := w) (h0 := v) hb.2.2.1 sx sb hb.2.1 hb.2.2.1.2.2.1 (by omega) (by omega) z3 z4 z1 z2
    have mc := mc1 (way := -1) hb.2.2.2.1 hb.2.2.2.2.1 sm hb.m2 (by decide) (vw_alone hb.m1 (by decide))
    obtain ⟨T', e4, f2, t2⟩ := fills1 (way := -1) mc sb hb.2.1 ⟨by omega, by omega⟩ ⟨by omega, by omega⟩
    have d1 := decide_x (x := x) (y := y) (w := w) (h := v) rfl x1 t1 sb hb.2.1 (by omega) (by omega) (by omega) z3 z4 z1 z2 (Nat.le_refl _) (Nat.le_refl _) (Nat.le_refl _) (Nat.le_refl _)
    have d2 := deed_m (x := x) (y := y) (w := w) (h := v) rfl (mc.fr (f2.mono (by intro a b z; simp [pBst] at z ⊢; omega))) t2 sb hb.2.1 (by omega) (by omega) z1 z2 z3 z4
    rw [e1, e2, b1_s, b1_s, if_neg (by decide), if_neg (by decide), see_e, b1_s, e3, b1_s, e4, b1_s, d2, b1_s]
    rw [d1, b1_s]
    exact ⟨_, _, _, rfl, rfl, keepScr h (f1.mono pSa_sc) (f2.mono p11_sc)⟩
  · rw [e1, e2]
    exact ⟨-1, SX, SM, rfl, rfl, h⟩
theorem sim_costs : ∀ (SX SM : St) (a1 a2 : Int32), Rel_ SX SM → ∃ (r : Int32) (S1 S2 : St), fX11_costs SX a1 a2 = some (r, S1) ∧ fX12_costs SM a1 a2 = some (r, S2) ∧ Rel_ S1 S2 := by
  intro SX SM a1 a2 h
  obtain ⟨hB, hS, hP, hT, hL, hH, hE⟩ := id h
  obtain ⟨W, H, cr, gr, hb, ha, hc⟩ := hB
  obtain ⟨ns, sw, sh, pr, ls, tn, ⟨sb, sx, sm⟩, hk, ho⟩ := hS
  have hW := hb.1
  unfold fX11_costs fX12_costs
  rw [hasSq_x hb.2.2.1, isSq_m hb.2.2.2.1 hb.2.2.2.2.1, b1_s, b1_s]
  by_cases c : (0 ≤ a1 ∧ a1 ≤ nI W - 1) ∧ (0 ≤ a2 ∧ a2 ≤ nI H - 1)
  · obtain ⟨x, hx1, rfl⟩ := (in_nat (by omega)).mp c.1
    obtain ⟨y, hy1, rfl⟩ := (in_nat (by omega)).mp c.2
    rw [if_pos c, if_neg (by decide), if_neg (by decide)]
    obtain ⟨S1, e1, f1, _, _⟩ := mostWith1 hb.2.2.1 sx sb hb.2.1 hb.2.2.1.2.2.1 ⟨by omega, by omega⟩ ⟨by omega, by omega⟩
    have g1 : gL_ S1 1 2 = gL_ SX 1 2 := f1.gL rfl
    obtain ⟨u, e2, hu⟩ := withBit_e S1 (v := gL_ S1 1 2) (x := x) (y := y) (b := true) (by omega) (by omega)
    have hu' : ∀ q, q < 64 → lt_ u q = (fun q => if q = 8 * y + x then true else cr q) q := fun q hq => by
      rw [hu q hq, g1, hb.2.2.1.2.2.1 q hq]
    obtain ⟨S2, e3, f2, _, _⟩ := mostWith1 (S := S1) (hb.2.2.1.fr f1 (fun j => rfl) (fun j => rfl)) (sx.fr f1 rfl (fun k j z1 z2 => by simp [pSa]; omega)) sb hb.2.1 hu' ⟨by omega, by omega⟩ ⟨by omega, by omega⟩
    have e2' : fX11_withBit S1 (gL_ S1 1 2) (nI x) (nI y) 1 = some u := e2
    have mc := mc1 (way := -1) hb.2.2.2.1 hb.2.2.2.2.1 sm hb.m2 (by decide) (vw_alone hb.m1 (by decide))
    obtain ⟨T1, m1, k1, _⟩ := mostOf1 (way := -1) mc sb hb.2.1 ⟨by omega, by omega⟩ ⟨by omega, by omega⟩
    have q64 : 8 * y + x < 64 := by omega
    have ei : 8 * nI y + nI x = nI (8 * y + x) := by
      have : 8 * nI y = nI (8 * y) := nI_mul 8 y
      rw [this, nI_add]
    have had : aI_ T1 1 (8 * y + x) = zb (cr (8 * y + x)) := by rw [k1.aI (by simp)]; exact hb.m1 _ q64
    have fr1 : Fr (fun a _ => a == 1) T1 (pA_ T1 1 (8 * y + x) 1) := Fr.pA (by simp) (Fr.refl _ _)
    have mc2 := mc1 (S := pA_ T1 1 (8 * y + x) 1) (way := -1) (u := fun q => if q = 8 * y + x then true else cr q) (gr := gr) (n := ns) (sw := sw) (sh := sh) (pr := pr) (ls := ls) (tn := tn) (W := W) (H := H) (by simp only [gI_pI, gI_pL, gI_pA, gI_pB, gI_pR, gI_pW, gL_pI, gL_pL, gL_pA, gL_pB, gL_pR, gL_pW, aI_pI, aI_pL, aI_pA, aI_pB, aI_pR, aI_pW, aL_pI, aL_pL, aL_pA, aL_pB, aL_pR, aL_pW, gR_pI, gR_pL, gR_pA, gR_pB, gR_pR, gR_pW]; rw [k1.gI (by simp)]; exact hb.2.2.2.1) (by simp only [gI_pI, gI_pL, gI_pA, gI_pB, gI_pR, gI_pW, gL_pI, gL_pL, gL_pA, gL_pB, gL_pR, gL_pW, aI_pI, aI_pL, aI_pA, aI_pB, aI_pR, aI_pW, aL_pI, aL_pL, aL_pA, aL_pB, aL_pR, aL_pW, gR_pI, gR_pL, gR_pA, gR_pB, gR_pR, gR_pW]; rw [k1.gI (by simp)]; exact hb.2.2.2.2.1) ((sm.fr k1 (by simp) (fun k j z1 z2 => by simp; omega)).fr fr1 (by simp) (fun k j z1 z2 => by simp; omega)) (fun q hq => by rw [fr1.aI (by simp), k1.aI (by simp)]; exact hb.m2 q hq) (by decide) (vw_alone (fun q hq => by
      simp only [gI_pI, gI_pL, gI_pA, gI_pB, gI_pR, gI_pW, gL_pI, gL_pL, gL_pA, gL_pB, gL_pR, gL_pW, aI_pI, aI_pL, aI_pA, aI_pB, aI_pR, aI_pW, aL_pI, aL_pL, aL_pA, aL_pB, aL_pR, aL_pW, gR_pI, gR_pL, gR_pA, gR_pB, gR_pR, gR_pW, true_and]
      by_cases z : q = 8 * y + x
      · simp only [z, if_true]; rfl
      · simp only [z, if_false]; rw [k1.aI (by simp)]; exact hb.m1 q hq) (by decide))
    obtain ⟨T2, m2, k2, _⟩ := mostOf1 (way := -1) mc2 sb hb.2.1 ⟨by omega, by omega⟩ ⟨by omega, by omega⟩
    rw [e1, b1_s, e2', b1_s, e3, b1_s, m1, b1_s, ei, rI_n q64 (by omega), b1_s, had, wZ_1 q64 (by omega), b1_s, m2, b1_s, wZ_b q64 (by omega), b1_s]
    refine ⟨_, _, _, rfl, rfl, keepScr h ((f1.trans f2).mono pSa_sc) (Fr.mono (p := fun a _ => a == 11) (fun a b hab => ?_) p11_sc)⟩
    obtain ⟨x1, x2, x3, x4, x5⟩ := k1 a b hab
    obtain ⟨y1, y2, y3, y4, y5⟩ := k2 a b hab
    simp only [gI_pI, gI_pL, gI_pA, gI_pB, gI_pR, gI_pW, gL_pI, gL_pL, gL_pA, gL_pB, gL_pR, gL_pW, aI_pI, aI_pL, aI_pA, aI_pB, aI_pR, aI_pW, aL_pI, aL_pL, aL_pA, aL_pB, aL_pR, aL_pW, gR_pI, gR_pL, gR_pA, gR_pB, gR_pR, gR_pW] at y1 y2 y3 y4 y5 ⊢
    refine ⟨y1.trans x1, y2.trans x2, ?_, y4.trans x4, y5.trans x5⟩
    by_cases z : a = 1 ∧ b = 8 * y + x
    · rw [if_pos z, z.1, z.2]; exact (hb.m1 _ q64).symm
    · rw [if_neg z, y3, if_neg z]; exact x3
  · exact ⟨-1, SX, SM, by rw [if_neg c]; rfl, by rw [if_neg c]; rfl, h⟩
theorem sim_gains : ∀ (SX SM : St) (a1 a2 : Int32), Rel_ SX SM → ∃ (r : Int32) (S1 S2 : St), fX11_gains SX a1 a2 = some (r, S1) ∧ fX12_gains SM a1 a2 = some (r, S2) ∧ Rel_ S1 S2 := by
  intro SX SM a1 a2 h
  obtain ⟨hB, hS, hP, hT, hL, hH, hE⟩ := id h
  obtain ⟨W, H, cr, gr, hb, ha, hc⟩ := hB
  obtain ⟨ns, sw, sh, pr, ls, tn, ⟨sb, sx, sm⟩, hk, ho⟩ := hS
  have hW := hb.1
  have hns := sb.1
  unfold fX11_gains fX12_gains
  rw [has_x sx.1, isShape_m sm.1]
  simp only [within_e, (in_e SM a2 1 500 (B := 1) (C := 500) rfl rfl), b1_s, bs_l, bs_r, oI_e, oL_e, oR_e, i10]
  by_cases c1 : 0 ≤ a1 ∧ a1 ≤ nI ns - 1
  · by_cases c2 : 1 ≤ a2 ∧ a2 ≤ 500
    · obtain ⟨s, hs, rfl⟩ := (in_nat (by omega)).mp c1
      obtain ⟨p, p1, p2, rfl⟩ := in_rng (a := 1) (b := 500) (by omega) c2 (by omega)
      rw [if_neg (fun q => q c1), if_neg (fun q => q c2), if_neg (fun q => q c1), if_neg (fun q => q c2)]
      obtain ⟨S1, e1, f1, _, _⟩ := mostWith1 hb.2.2.1 sx sb hb.2.1 hb.2.2.1.2.2.1 ⟨by omega, by omega⟩ ⟨by omega, by omega⟩
      have fx : Fr (fun a _ => a == 24) S1 (pA_ S1 24 s (nI p)) := Fr.pA (by simp) (Fr.refl _ _)
      have sb2 : ShB ns sw sh (at_ pr s p) ls := ⟨sb.1, fun t ht => by
        obtain ⟨q1, q2, q3, q4⟩ := sb.2 t ht
        refine ⟨q1, q2, ?_, q4⟩
        by_cases z : t = s
        · rw [z, at_s]; exact ⟨p1, p2⟩
        · rw [at_o _ _ z]; exact q3⟩
      have sx2 : Shp (pA_ S1 24 s (nI p)) 21 5 22 ns sw sh (at_ pr s p) ls tn := ⟨by simp only [gI_pI, gI_pL, gI_pA, gI_pB, gI_pR, gI_pW, gL_pI, gL_pL, gL_pA, gL_pB, gL_pR, gL_pW, aI_pI, aI_pL, aI_pA, aI_pB, aI_pR, aI_pW, aL_pI, aL_pL, aL_pA, aL_pB, aL_pR, aL_pW, gR_pI, gR_pL, gR_pA, gR_pB, gR_pR, gR_pW]; rw [f1.gI rfl]; exact sx.1, fun t ht => by
        obtain ⟨q1, q2, q3, q4, q5⟩ := sx.2 t ht
        simp only [gI_pI, gI_pL, gI_pA, gI_pB, gI_pR, gI_pW, gL_pI, gL_pL, gL_pA, gL_pB, gL_pR, gL_pW, aI_pI, aI_pL, aI_pA, aI_pB, aI_pR, aI_pW, aL_pI, aL_pL, aL_pA, aL_pB, aL_pR, aL_pW, gR_pI, gR_pL, gR_pA, gR_pB, gR_pR, gR_pW, Nat.reduceAdd, Nat.reduceEqDiff, false_and, if_false, true_and]
        rw [f1.aI rfl, f1.aI rfl, f1.aI rfl, f1.aI rfl, f1.aI rfl]
        refine ⟨q1, q2, ?_, q4, q5⟩
        by_cases z : t = s
        · rw [if_pos z, z, at_s]
        · rw [if_neg z, at_o _ _ z]; exact q3⟩
      obtain ⟨S2, e3, f2, _, _⟩ := mostWith1 (S := pA_ S1 24 s (nI p)) (v := gL_ (pA_ S1 24 s (nI p)) 1 2) (u := cr) ((hb.2.2.1.fr f1 (fun j => rfl) (fun j => rfl)).fr fx (fun j => by simp) (fun j => by simp)) sx2 sb2 hb.2.1 (fun q hq => by simp only [gI_pI, gI_pL, gI_pA, gI_pB, gI_pR, gI_pW, gL_pI, gL_pL, gL_pA, gL_pB, gL_pR, gL_pW, aI_pI, aI_pL, aI_pA, aI_pB, aI_pR, aI_pW, aL_pI, aL_pL, aL_pA, aL_pB, aL_pR, aL_pW, gR_pI, gR_pL, gR_pA, gR_pB, gR_pR, gR_pW]; rw [f1.gL rfl]; exact hb.2.2.1.2.2.1 q hq) ⟨by omega, by omega⟩ ⟨by omega, by omega⟩
      have mc := mc1 (way := -1) hb.2.2.2.1 hb.2.2.2.2.1 sm hb.m2 (by decide) (vw_alone hb.m1 (by decide))
      obtain ⟨T1, m1, k1, _⟩ := mostOf1 (way := -1) mc sb hb.2.1 ⟨by omega, by omega⟩ ⟨by omega, by omega⟩
      have fm : Fr (fun a _ => a == 8) T1 (pA_ T1 8 s (nI p)) := Fr.pA (by simp) (Fr.refl _ _)
      have sm2 : Shp (pA_ T1 8 s (nI p)) 0 9 6 ns sw sh (at_ pr s p) ls tn := ⟨by simp only [gI_pI, gI_pL, gI_pA, gI_pB, gI_pR, gI_pW, gL_pI, gL_pL, gL_pA, gL_pB, gL_pR, gL_pW, aI_pI, aI_pL, aI_pA, aI_pB, aI_pR, aI_pW, aL_pI, aL_pL, aL_pA, aL_pB, aL_pR, aL_pW, gR_pI, gR_pL, gR_pA, gR_pB, gR_pR, gR_pW]; rw [k1.gI (by simp)]; exact sm.1, fun t ht => by
        obtain ⟨q1, q2, q3, q4, q5⟩ := sm.2 t ht
        simp only [gI_pI, gI_pL, gI_pA, gI_pB, gI_pR, gI_pW, gL_pI, gL_pL, gL_pA, gL_pB, gL_pR, gL_pW, aI_pI, aI_pL, aI_pA, aI_pB, aI_pR, aI_pW, aL_pI, aL_pL, aL_pA, aL_pB, aL_pR, aL_pW, gR_pI, gR_pL, gR_pA, gR_pB, gR_pR, gR_pW, Nat.reduceAdd, Nat.reduceEqDiff, false_and, if_false, true_and]
        rw [k1.aI (by simp), k1.aI (by simp), k1.aI (by simp), k1.aI (by simp), k1.aI (by simp)]
        refine ⟨q1, q2, ?_, q4, q5⟩
        by_cases z : t = s
        · rw [if_pos z, z, at_s]
        · rw [if_neg z, at_o _ _ z]; exact q3⟩
      have mc2 := mc1 (S := pA_ T1 8 s (nI p)) (way := -1) (u := cr) (gr := gr) (W := W) (H := H) (by simp only [gI_pI, gI_pL, gI_pA, gI_pB, gI_pR, gI_pW, gL_pI, gL_pL, gL_pA, gL_pB, gL_pR, gL_pW, aI_pI, aI_pL, aI_pA, aI_pB, aI_pR, aI_pW, aL_pI, aL_pL, aL_pA, aL_pB, aL_pR, aL_pW, gR_pI, gR_pL, gR_pA, gR_pB, gR_pR, gR_pW]; rw [k1.gI (by simp)]; exact hb.2.2.2.1) (by simp only [gI_pI, gI_pL, gI_pA, gI_pB, gI_pR, gI_pW, gL_pI, gL_pL, gL_pA, gL_pB, gL_pR, gL_pW, aI_pI, aI_pL, aI_pA, aI_pB, aI_pR, aI_pW, aL_pI, aL_pL, aL_pA, aL_pB, aL_pR, aL_pW, gR_pI, gR_pL, gR_pA, gR_pB, gR_pR, gR_pW]; rw [k1.gI (by simp)]; exact hb.2.2.2.2.1) sm2 (fun q hq => by rw [fm.aI (by simp), k1.aI (by simp)]; exact hb.m2 q hq) (by decide) (vw_alone (fun q hq => by rw [fm.aI (by simp), k1.aI (by simp)]; exact hb.m1 q hq) (by decide))
      obtain ⟨T2, m2, k2, _⟩ := mostOf1 (way := -1) mc2 sb2 hb.2.1 ⟨by omega, by omega⟩ ⟨by omega, by omega⟩
      have o1 : aI_ S1 24 s = nI (pr s) := by rw [f1.aI rfl]; exact (sx.2 s hs).2.2.1
      have o2 : aI_ T1 8 s = nI (pr s) := by rw [k1.aI (by simp)]; exact (sm.2 s hs).2.2.1
      rw [e1, b1_s, rI_n (show s < 8 by omega) (by omega), b1_s, wI_n (show s < 8 by omega) (by omega), b1_s, e3, b1_s, wI_n (show s < 8 by omega) (by omega), b1_s, o1, m1, b1_s, rI_n (show s < 8 by omega) (by omega), b1_s, wI_n (show s < 8 by omega) (by omega), b1_s, m2, b1_s, wI_n (show s < 8 by omega) (by omega), b1_s, o2]
      refine ⟨_, _, _, rfl, rfl, keepScr h (Fr.mono (p := pSa) (fun a b hab => ?_) pSa_sc) (Fr.mono (p := fun a _ => a == 11) (fun a b hab => ?_) p11_sc)⟩
      · obtain ⟨x1, x2, x3, x4, x5⟩ := f1 a b hab
        obtain ⟨y1, y2, y3, y4, y5⟩ := f2 a b hab
        simp only [gI_pI, gI_pL, gI_pA, gI_pB, gI_pR, gI_pW, gL_pI, gL_pL, gL_pA, gL_pB, gL_pR, gL_pW, aI_pI, aI_pL, aI_pA, aI_pB, aI_pR, aI_pW, aL_pI, aL_pL, aL_pA, aL_pB, aL_pR, aL_pW, gR_pI, gR_pL, gR_pA, gR_pB, gR_pR, gR_pW] at y1 y2 y3 y4 y5 ⊢
        refine ⟨y1.trans x1, y2.trans x2, ?_, y4.trans x4, y5.trans x5⟩
        by_cases z : a = 24 ∧ b = s
        · rw [if_pos z, z.1, z.2]; exact (sx.2 s hs).2.2.1.symm
        · rw [if_neg z, y3, if_neg z]; exact x3
      · obtain ⟨x1, x2, x3, x4, x5⟩ := k1 a b hab
        obtain ⟨y1, y2, y3, y4, y5⟩ := k2 a b hab
        simp only [gI_pI, gI_pL, gI_pA, gI_pB, gI_pR, gI_pW, gL_pI, gL_pL, gL_pA, gL_pB, gL_pR, gL_pW, aI_pI, aI_pL, aI_pA, aI_pB, aI_pR, aI_pW, aL_pI, aL_pL, aL_pA, aL_pB, aL_pR, aL_pW, gR_pI, gR_pL, gR_pA, gR_pB, gR_pR, gR_pW] at y1 y2 y3 y4 y5 ⊢
        refine ⟨y1.trans x1, y2.trans x2, ?_, y4.trans x4, y5.trans x5⟩
        by_cases z : a = 8 ∧ b = s
        · rw [if_pos z, z.1, z.2]; exact (sm.2 s hs).2.2.1.symm
        · rw [if_neg z, y3, if_neg z]; exact x3
    · exact ⟨-1000000, SX, SM, by rw [if_neg (fun q => q c1), if_pos c2], by rw [if_neg (fun q => q c1), if_pos c2], h⟩
  · exact ⟨-1000000, SX, SM, by rw [if_pos c1], by rw [if_pos c1], h⟩
